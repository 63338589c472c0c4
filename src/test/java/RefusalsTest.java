import java.lang.reflect.Method;
import java.util.Arrays;
import java.util.function.Supplier;

/** Every refusal of every promise, in the order in which it tells them, each of which only counts itself. */
public final class RefusalsTest {
    private static final Due due = new Due();
    /** Makes the object of each call anew: none is used for more than 512. */
    private static Supplier<CandleIsADebt> made;
    private static final int LEAST = Integer.MIN_VALUE;
    private static final int MOST = Integer.MAX_VALUE;
    private static final long FAR = 1000000000L;
    private static final long FAR_LONG = 4000000000000000000L;

    public static void main(String[] args) throws ReflectiveOperationException {
        made = () -> Due.village("h0000; h3524; h5948; w00482; w24001; w48240; o00; o01; o11; e02");
        changes();
        questions();
        sums();
        made = RefusalsTest::full;
        noRoom();
        made = () -> late(0);
        refused(-6, "evenings", 40, 60, 61);
        made = () -> late(39);
        refused(-6, "evenings", 1, 60);
        refused(-4, "evenings", 0);
        due.end();
    }

    private static void changes() throws ReflectiveOperationException {
        refused(-4, "feed", -1, LEAST);
        refused(-6, "feed", 256, MOST);
        refused(-2, "house", new int[][] {{-1, 0, 0}, {6, 0, 0}, {6, -1, 49}, {MOST, 10, -1}, {LEAST, -1, -1}});
        refused(-4, "house", new int[][] {{0, -1, 0}, {5, LEAST, 49}});
        refused(-6, "house", new int[][] {{0, 10, 0}, {0, MOST, 49}});
        refused(-1, "house", new int[][] {{0, 0, -1}, {0, 0, 49}, {5, 9, LEAST}, {5, 9, MOST}});
        refused(-1, "walker", new int[][] {{-1, 0, 0}, {49, 0, 0}, {0, -1, 0}, {0, 49, 0}, {49, 0, -1}, {0, MOST, 3}});
        refused(-4, "walker", new int[][] {{0, 0, -1}, {48, 48, LEAST}});
        refused(-6, "walker", new int[][] {{0, 0, 3}, {48, 48, MOST}});
        refused(-1, "lights", -1, 3, LEAST, MOST);
        refused(-1, "goals", new int[][] {{-1, 0}, {3, 0}, {0, -1}, {0, 49}, {MOST, LEAST}});
        refused(-1, "visits", new int[][] {{-1, 0}, {3, 0}, {0, -1}, {0, 3}, {MOST, LEAST}});
        refused(-3, "visits", new int[][] {{0, 0}, {1, 0}, {2, 2}, {0, 2}});
        refused(-1, "trades", new int[][] {{-1, 0, 1}, {3, 0, 1}, {0, -1, 1}, {0, 3, 1}, {0, 0, -1}, {0, 0, 3}, {0, 0, 0},
            {2, 2, 2}, {MOST, 0, 0}});
        refused(-3, "trades", new int[][] {{0, 1, 2}, {1, 0, 1}, {2, 0, 1}});
        refused(-4, "evenings", 0, -1, LEAST);
        refused(-6, "evenings", 61, MOST);
        refused(-3, "back", new int[][] {{}});
        refused(-3, "restore", new int[][] {{}});
        refused(-4, "row", -1, LEAST);
        refused(-6, "row", 100, MOST);
    }

    private static void questions() throws ReflectiveOperationException {
        refused(-1, "houseOf", new int[][] {{-1, 0}, {3, 0}, {3, 8}, {LEAST, -1}});
        refused(-2, "houseOf", new int[][] {{0, -1}, {2, 8}, {0, MOST}});
        refused(-1, "walkerOf", new int[][] {{-1, 0}, {3, 0}, {3, 6}, {MOST, -1}});
        refused(-2, "walkerOf", new int[][] {{0, -1}, {2, 6}, {0, LEAST}});
        refused(-1, "age", new int[][] {{-1, 0}, {3, 0}, {0, -1}, {0, 3}});
        refused(-1, "walkerIn", new int[][] {{-1, 0, 0}, {3, 0, 0}, {3, -1, 3}, {-1, 61, 3}});
        refused(-4, "walkerIn", new int[][] {{0, -1, 0}, {0, LEAST, 3}});
        refused(-6, "walkerIn", new int[][] {{0, 61, 0}, {0, MOST, -1}});
        refused(-2, "walkerIn", new int[][] {{0, 0, -1}, {0, 60, 3}});
        refused(-4, "prices", -1, LEAST);
        refused(-6, "prices", 61, MOST);
        refused(-1, "owed", new int[][] {{-1, 0}, {3, 0}, {0, -1}, {0, 3}});
        refused(-1, "home", -1, 3, LEAST, MOST);
        refused(-2, "richest", -1, 2, LEAST, MOST);
        refused(-1, "way", new int[][] {{-1, 0, 0}, {3, 0, 0}, {0, -1, 0}, {0, 49, 0}, {0, 49, 2}, {3, 0, -1}});
        refused(-2, "way", new int[][] {{0, 0, -1}, {0, 48, 2}});
        refused(-1, "payAll", new int[][] {{-1, 0}, {3, 0}, {3, -2}});
        refused(-4, "payAll", new int[][] {{0, -2}, {0, LEAST}});
        refused(-1, "whoWent", -1, 3, LEAST, MOST);
        refused(-2, "spread", -1, 2, LEAST, MOST);
        refused(-1, "whatKind", new int[][] {{-1, 0, 0}, {3, 0, 0}, {0, -1, 0}, {0, 3, 0}, {0, 3, 2}});
        refused(-2, "whatKind", new int[][] {{0, 0, -1}, {0, 0, 2}});
        refused(-2, "oldest", -1, 4, LEAST, MOST);
        refused(-1, "nearest", -1, 3, LEAST, MOST);
        refused(-1, "allSeen", -1, 3, LEAST, MOST);
        refused(-1, "street", -1, 7, LEAST, MOST);
    }

    private static void sums() throws ReflectiveOperationException {
        refused(-1, "clear", new int[][] {{-1, 0}, {3, 0}, {0, -1}, {0, 3}, {1, 1}});
        refused(-4, "burn", new int[][] {{0, 0}, {0, 2}, {LEAST, -1}});
        refused(-6, "burn", new int[][] {{31, 0}, {31, 2}, {MOST, -1}});
        refused(-2, "burn", new int[][] {{1, -1}, {30, 2}});
        refused(-4, "shut", -1, LEAST);
        refused(-6, "shut", 61, MOST);
        refused(-1, "trade", new int[][] {{-1, 0}, {3, 0}, {0, -1}, {0, 3}});
        refused(-3, "trade", new int[][] {{2, 2}, {1, 0}});
        refused(-1, "two", new int[][] {{-1, 0, 0}, {3, 0, 0}, {0, -1, 0}, {0, 3, 0}, {1, 1, 0}, {1, 1, -1}, {0, 3, 61}});
        refused(-4, "two", new int[][] {{0, 1, -1}, {0, 1, LEAST}});
        refused(-6, "two", new int[][] {{0, 1, 61}, {0, 1, MOST}});
        refused(-1, "mist", new int[][] {{-1, 0, 0, 2, 0}, {3, 0, 0, 2, 0}, {0, -1, 0, 2, 0}, {0, 3, 0, 2, 0}, {0, 3, -1, 1, 2}});
        refused(-4, "mist", new int[][] {{0, 0, -1, 2, 0}, {0, 0, 0, 1, 0}, {0, 0, 8, 1, 2}, {0, 0, -1, 21, 2}});
        refused(-6, "mist", new int[][] {{0, 0, 8, 2, 0}, {0, 0, 0, 21, 0}, {0, 0, MOST, MOST, 2}});
        refused(-2, "mist", new int[][] {{0, 0, 0, 2, -1}, {0, 0, 7, 20, 2}, {2, 2, 7, 20, 2}});
        refused(-2, "mean", -1, 2, LEAST, MOST);
        refused(-1, "moved", new int[][] {{-1, 0, 0}, {3, 0, 0}, {0, -1, 0}, {0, 49, 0}, {0, 49, -1}, {3, 0, 61}});
        refused(-4, "moved", new int[][] {{0, 0, -1}, {0, 0, LEAST}});
        refused(-6, "moved", new int[][] {{0, 0, 61}, {0, 0, MOST}});
        refused(-4, "lots", new int[][] {{0, 1, 0}, {0, 1, 2}, {LEAST, 1, 0}});
        refused(-6, "lots", new int[][] {{21, 1, 0}, {21, 1, 2}, {MOST, 1, 0}});
        refused(-2, "lots", new int[][] {{1, 1, -1}, {20, LEAST, 2}});
    }

    private static CandleIsADebt full() {
        CandleIsADebt x = new CandleIsADebt();
        for (int i = 0; i < 7; i++) x.house(0, 0, 0);
        for (int i = 0; i < 6; i++) x.walker(0, 0, 0);
        for (int i = 0; i < 96; i++) x.feed(0);
        for (int i = 0; i < 12; i++) x.row(0);
        return x;
    }

    private static void noRoom() throws ReflectiveOperationException {
        refused(-2, "house", new int[][] {{6, 0, 0}});
        refused(-4, "house", new int[][] {{0, -1, 0}});
        refused(-6, "house", new int[][] {{0, 0, 0}, {0, 0, 49}});
        refused(-1, "walker", new int[][] {{0, 49, 0}});
        refused(-4, "walker", new int[][] {{0, 0, -1}});
        refused(-6, "walker", new int[][] {{0, 0, 0}});
        refused(-4, "feed", -1);
        refused(-6, "feed", 0, 255);
        refused(-4, "row", -1);
        refused(-6, "row", 0, 99);
    }

    private static CandleIsADebt late(int more) {
        CandleIsADebt x = new CandleIsADebt();
        for (int i = 0; i < 16; i++) x.evenings(60);
        if (more > 0) x.evenings(more);
        return x;
    }

    private static void refused(int number, String name, int... each) throws ReflectiveOperationException {
        for (int v : each) refused(number, name, new int[][] {{v}});
    }

    private static void refused(int number, String name, int[][] each) throws ReflectiveOperationException {
        for (int[] args : each) {
            CandleIsADebt x = made.get();
            String call = name + Arrays.toString(args);
            String before = state(x, -number);
            int counted = x.count(10 - number);
            due.is(call, invoke(x, name, args), answer(name, number));
            due.is(call + ": how many there were", x.count(10 - number), counted + 1);
            due.is(call + ": nothing changes", state(x, -number).equals(before) ? 1 : 0, 1);
        }
    }

    private static long answer(String name, int number) {
        if (name.equals("mist") || name.equals("mean")) return FAR_LONG - number;
        return name.equals("clear") || name.equals("moved") ? FAR - number : number;
    }

    private static long invoke(CandleIsADebt x, String name, int[] args) throws ReflectiveOperationException {
        Class<?>[] types = new Class<?>[args.length];
        Arrays.fill(types, int.class);
        Method method = CandleIsADebt.class.getMethod(name, types);
        return ((Number) method.invoke(x, Arrays.stream(args).boxed().toArray())).longValue();
    }

    /** All that can be asked without a refusal, but for the count of one kind of them. */
    private static String state(CandleIsADebt x, int but) {
        StringBuilder all = new StringBuilder();
        for (int what = 0; what <= 16; what++) if (what != but + 10) all.append(x.count(what)).append(' ');
        for (int h = 0; h < x.count(0); h++) for (int what = 0; what < 8; what++) all.append(x.houseOf(h, what)).append(' ');
        for (int w = 0; w < x.count(1); w++) {
            for (int what = 0; what < 6; what++) all.append(x.walkerOf(w, what)).append(' ');
            for (int h = 0; h < x.count(0); h++) all.append(x.age(w, h)).append(' ');
        }
        return all.toString();
    }
}
