import java.lang.reflect.Method;
import java.util.Arrays;
import java.util.HashMap;
import java.util.Map;

/** Long runs of calls by lot, each answer held against the literal model's. */
public final class ModelTest {
    private static final int RUNS = 400;
    private static final int CALLS = 512;
    private final Due due = new Due();
    private final Map<String, Method> asked = methods(CandleIsADebt.class);
    private final Map<String, Method> known = methods(Model.class);
    private long lot = 20261118;
    private CandleIsADebt candle;
    private Model model;
    private int run;
    private int calls;

    public static void main(String[] args) throws ReflectiveOperationException {
        ModelTest test = new ModelTest();
        for (test.run = 0; test.run < RUNS; test.run++) test.run();
        test.due.end();
    }

    private static Map<String, Method> methods(Class<?> of) {
        Map<String, Method> methods = new HashMap<>();
        for (Method m : of.getDeclaredMethods()) methods.put(m.getName(), m);
        return methods;
    }

    private void call(String name, int... args) throws ReflectiveOperationException {
        Object[] boxed = Arrays.stream(args).boxed().toArray();
        long got = ((Number) asked.get(name).invoke(candle, boxed)).longValue();
        long want = ((Number) known.get(name).invoke(model, boxed)).longValue();
        due.is("run " + run + ", call " + calls + ": " + name + Arrays.toString(args), got, want);
        calls++;
    }

    private int below(int n) {
        lot = lot * 6364136223846793005L + 1442695040888963407L;
        return (int) ((lot >>> 33) % n);
    }

    /** Mostly within the bounds, at times one of their outer neighbours or far away. */
    private int near(int least, int most) {
        int odds = below(40);
        if (odds == 0) return least - 1;
        if (odds == 1) return most + 1;
        if (odds == 2) return below(2) == 0 ? Integer.MIN_VALUE : Integer.MAX_VALUE;
        return least + below(most - least + 1);
    }

    private int house() {
        return near(0, Math.max(0, model.land.houses.size() - 1));
    }

    private int walker() {
        return near(0, Math.max(0, model.land.walkers.size() - 1));
    }

    private int cell() {
        return near(0, 48);
    }

    private int evenings() {
        return below(2) == 0 ? near(0, 8) : near(0, 60);
    }

    private void run() throws ReflectiveOperationException {
        candle = new CandleIsADebt();
        model = new Model();
        calls = 0;
        int settled = below(20) == 0 ? CALLS : 40;
        while (calls < CALLS - 120) {
            if (calls < settled && below(3) == 0) build();
            else step();
        }
        for (int what = -1; what <= 18; what++) call("count", what);
    }

    private void build() throws ReflectiveOperationException {
        if (below(2) == 0) call("house", near(0, 5), near(0, 9), cell());
        else call("walker", cell(), cell(), below(3) == 0 ? near(0, 2) : 2);
    }

    private void step() throws ReflectiveOperationException {
        int odds = below(100);
        if (odds < 5) letters();
        else if (odds < 40) change();
        else if (odds < 60) view();
        else if (odds < 80) foresee();
        else weigh();
    }

    private void letters() throws ReflectiveOperationException {
        StringBuilder text = new StringBuilder();
        for (int i = 1 + below(below(8) == 0 ? 20 : 6); i > 0; i--) text.append(statement());
        if (below(6) == 0) {
            int letter = below(3) == 0 ? below(256) : "hwlgoe;09".charAt(below(9));
            text.setCharAt(below(text.length()), (char) letter);
        }
        if (below(8) == 0) text.setLength(below(text.length()));
        if (below(8) == 0) call("feed", below(2) == 0 ? -1 : 256);
        for (int i = 0; i < text.length(); i++) call("feed", text.charAt(i));
        call("village");
    }

    private static String digits(int value, int many) {
        String s = "0" + Math.floorMod(value, many == 1 ? 10 : 100);
        return s.substring(s.length() - many);
    }

    private String statement() {
        switch (below(8)) {
            case 0: return "h" + digits(near(0, 5), 1) + digits(near(0, 9), 1) + digits(cell(), 2) + ";";
            case 1: return "w" + digits(cell(), 2) + digits(cell(), 2) + digits(near(0, 2), 1) + ";";
            case 2: return "l" + digits(house(), 1) + ";";
            case 3: return "g" + digits(walker(), 1) + digits(cell(), 2) + ";";
            case 4: return "e" + digits(below(4) == 0 ? near(1, 60) : near(1, 9), 2) + ";";
            default: return "o" + digits(walker(), 1) + digits(house(), 1) + ";";
        }
    }

    private void change() throws ReflectiveOperationException {
        switch (below(20)) {
            case 0: call("lights", house()); break;
            case 1: call("goals", walker(), cell()); break;
            case 2: case 3: case 4: goHome(); break;
            case 5: case 6: case 7: visit(); break;
            case 8: case 9: case 10: call("trades", house(), walker(), walker()); break;
            case 11: if (below(2) == 0) call("image"); break;
            case 12: if (below(4) == 0) call("restore"); break;
            case 13: case 14: call("back"); break;
            default: call("evenings", below(5) == 0 ? near(1, 60) : near(1, 6));
        }
    }

    private void goHome() throws ReflectiveOperationException {
        if (model.land.houses.isEmpty()) return;
        call("goals", walker(), model.land.houses.get(below(model.land.houses.size())).cell);
    }

    /** A visit that can be, where there is one. */
    private void visit() throws ReflectiveOperationException {
        int walker = walker();
        int house = house();
        for (int w = 0; w < model.land.walkers.size(); w++) {
            for (int h = 0; h < model.land.houses.size(); h++) {
                boolean there = model.land.walkers.get(w).at == model.land.houses.get(h).cell;
                if (there && model.land.walkers.get(w).age[h] != null && below(2) == 0) {
                    walker = w;
                    house = h;
                }
            }
        }
        call("visits", walker, house);
    }

    private void view() throws ReflectiveOperationException {
        switch (below(18)) {
            case 0: call("houseOf", house(), near(0, 7)); break;
            case 1: call("walkerOf", walker(), near(0, 5)); break;
            case 2: call("age", walker(), house()); break;
            case 3: call("richest", near(0, 1)); break;
            case 4: call("clear", house(), house()); break;
            case 5: call("trade", walker(), house()); break;
            case 6: call("whoWent", house()); break;
            case 7: call("spread", near(0, 1)); break;
            case 8: call("oldest", near(0, 3)); break;
            case 9: call("mean", near(0, 1)); break;
            case 10: call("forgiven"); break;
            case 11: call("nearest", walker()); break;
            case 12: call("allSeen", house()); break;
            case 13: call("blind"); break;
            case 14: call("street", near(0, 6)); break;
            case 15: call("count", near(-1, 17)); break;
            case 16: call("home", walker()); break;
            default: call("payAll", walker(), near(-1, 7));
        }
    }

    private void foresee() throws ReflectiveOperationException {
        switch (below(10)) {
            case 0: call("walkerIn", walker(), evenings(), near(0, 2)); break;
            case 1: call("prices", evenings()); break;
            case 2: call("owed", walker(), house()); break;
            case 3: call("way", walker(), cell(), near(0, 1)); break;
            case 4: call("gaps"); break;
            case 5: call("moved", walker(), cell(), evenings()); break;
            case 6: call("shut", evenings()); break;
            case 7: call("two", house(), house(), evenings()); break;
            case 8: call("burn", near(1, 30), near(0, 1)); break;
            default: call("mist", walker(), house(), near(0, 7), near(2, 20), near(0, 1));
        }
    }

    private void weigh() throws ReflectiveOperationException {
        switch (below(7)) {
            case 0: call("lots", near(1, 20), below(2) == 0 ? below(1000) : (int) lot, near(0, 1)); break;
            case 1: judged(); break;
            case 2: call("empties"); break;
            case 3: call("row", below(2) == 0 ? near(0, 99) : near(0, 4)); break;
            default: kinds();
        }
    }

    /** A row that is so, but for a number off now and then. */
    private void judged() throws ReflectiveOperationException {
        int told = below(9);
        call("empties");
        for (int h = 0; h < told; h++) {
            int owers = h < model.land.houses.size() ? Integer.bitCount(model.land.owers(h)) : 0;
            call("row", below(12) == 0 ? owers + 1 : owers);
        }
        call("judge");
    }

    /** A row as one of the kinds or figures would tell it, asked of both. */
    private void kinds() throws ReflectiveOperationException {
        int w = walker();
        int h = house();
        boolean there = w >= 0 && w < model.land.walkers.size() && h >= 0 && h < model.land.houses.size();
        if (there) {
            call("empties");
            Model.Land land = model.land.copy();
            if (below(2) == 0) land.houses.get(h).kind = below(6);
            else land.houses.get(h).figure = below(10);
            for (int i = below(14); i > 0; i--) {
                Integer age = land.walkers.get(w).age[h];
                call("row", age == null ? 99 : age);
                land.evening(false);
            }
        }
        for (int what = 0; what < 3; what++) call("whatKind", w, h, what);
    }
}
