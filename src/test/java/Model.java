import java.util.ArrayList;
import java.util.List;

/**
 * The document once more, in the most literal way there is: evening by evening, way by way, order by
 * order. It is slow, and shares nothing with the class that it is held against.
 */
final class Model {
    static final class House {
        int kind, figure, cell;
        boolean lit = true;

        House(int kind, int figure, int cell) {
            this.kind = kind;
            this.figure = figure;
            this.cell = cell;
        }

        House copy() {
            House h = new House(kind, figure, cell);
            h.lit = lit;
            return h;
        }

        int reach() {
            int candle = 2, curtain = 0, moor = candle + figure / 2;
            return new int[] {candle, candle + 1, curtain, moor, curtain + 1, moor + 2}[kind];
        }

        int minutes(int a) {
            int candle = figure + 5, curtain = candle / 2, moor = candle + 20;
            return new int[] {candle, candle * 2, curtain, moor, curtain + a, moor + 2 * a}[kind];
        }
    }

    static final class Walker {
        int at, goal, sight;
        /** By house: null is not owed. */
        Integer[] age = new Integer[8];

        Walker(int at, int goal, int sight) {
            this.at = at;
            this.goal = goal;
            this.sight = sight;
        }

        Walker copy() {
            Walker w = new Walker(at, goal, sight);
            w.age = age.clone();
            return w;
        }

        boolean sees(House h, int from) {
            if (!h.lit || sight == 0) return false;
            int off = off(from, h.cell);
            return sight == 2 ? off <= h.reach() : off <= h.reach() / 2;
        }

        void step() {
            int r = at / 7, c = at % 7, gr = goal / 7, gc = goal % 7;
            if (r < gr) r++;
            else if (r > gr) r--;
            else if (c < gc) c++;
            else if (c > gc) c--;
            at = r * 7 + c;
        }
    }

    static final class Land {
        List<House> houses = new ArrayList<>();
        List<Walker> walkers = new ArrayList<>();
        int evening;

        Land copy() {
            Land l = new Land();
            for (House h : houses) l.houses.add(h.copy());
            for (Walker w : walkers) l.walkers.add(w.copy());
            l.evening = evening;
            return l;
        }

        /** An evening; in a mist nobody sees anything. */
        void evening(boolean misty) {
            evening++;
            for (Walker w : walkers) {
                for (int h = 0; h < 8; h++) if (w.age[h] != null && w.age[h] < 99) w.age[h]++;
            }
            for (Walker w : walkers) {
                w.step();
                for (int h = 0; h < houses.size() && !misty; h++) {
                    if (w.sees(houses.get(h), w.at) && w.age[h] == null) w.age[h] = 0;
                }
            }
        }

        Land behind(int n) {
            Land l = copy();
            for (int i = 0; i < n; i++) l.evening(false);
            return l;
        }

        int price(int w) {
            int sum = 0;
            for (int h = 0; h < houses.size(); h++) {
                Integer a = walkers.get(w).age[h];
                if (a != null) sum += houses.get(h).minutes(a);
            }
            return sum;
        }

        int prices() {
            int sum = 0;
            for (int w = 0; w < walkers.size(); w++) sum += price(w);
            return sum;
        }

        int burden() {
            int sum = 0;
            for (int w = 0; w < walkers.size(); w++) sum += price(w) > 30 ? 2 * price(w) : price(w);
            return sum;
        }

        int owes(int w) {
            int bits = 0;
            for (int h = 0; h < houses.size(); h++) if (walkers.get(w).age[h] != null) bits |= 1 << h;
            return bits;
        }

        int owers(int h) {
            int bits = 0;
            for (int w = 0; w < walkers.size(); w++) if (walkers.get(w).age[h] != null) bits |= 1 << w;
            return bits;
        }

        int debts() {
            int sum = 0;
            for (int w = 0; w < walkers.size(); w++) sum += Integer.bitCount(owes(w));
            return sum;
        }
    }

    static int off(int a, int b) {
        return Math.abs(a / 7 - b / 7) + Math.abs(a % 7 - b % 7);
    }

    Land land = new Land();
    Land picture;
    final List<Land> before = new ArrayList<>();
    final StringBuilder letters = new StringBuilder();
    final List<Integer> row = new ArrayList<>();
    final int[] refused = new int[7];

    private int no(int number) {
        refused[-number]++;
        return number;
    }

    private boolean noHouse(int h) {
        return h < 0 || h >= land.houses.size();
    }

    private boolean noWalker(int w) {
        return w < 0 || w >= land.walkers.size();
    }

    private static boolean noCell(int c) {
        return c < 0 || c > 48;
    }

    private void remember() {
        before.add(land.copy());
        if (before.size() > 8) before.remove(0);
    }

    int feed(int letter) {
        if (letter < 0) return no(-4);
        if (letter > 255 || letters.length() == 96) return no(-6);
        letters.append((char) letter);
        return letters.length();
    }

    /** Tries by brute force whether a village can begin with a text: some ending must make it whole. */
    private static boolean canGoOn(String text) {
        return text.matches("(h\\d{4};|w\\d{5};|l\\d;|g\\d{3};|o\\d{2};|e\\d{2};)*"
            + "(h\\d{0,4}|w\\d{0,5}|l\\d{0,1}|g\\d{0,3}|o\\d{0,2}|e\\d{0,2})?");
    }

    int village() {
        String text = letters.toString();
        letters.setLength(0);
        for (int i = 1; i <= text.length(); i++) if (!canGoOn(text.substring(0, i))) return -1000 - (i - 1);
        if (!text.endsWith(";")) return -1000 - text.length();
        Land next = land.copy();
        int place = 0, statements = 0;
        for (String s : text.split(";")) {
            if (!statement(next, s)) return -2000 - place;
            place += s.length() + 1;
            statements++;
        }
        land = next;
        before.clear();
        return statements;
    }

    private static int num(String s, int from, int to) {
        return Integer.parseInt(s.substring(from, to));
    }

    private static boolean statement(Land l, String s) {
        int hs = l.houses.size(), ws = l.walkers.size(), a = num(s, 1, 2);
        switch (s.charAt(0)) {
            case 'h':
                if (a > 5 || num(s, 3, 5) > 48 || hs == 7) return false;
                l.houses.add(new House(a, num(s, 2, 3), num(s, 3, 5)));
                return true;
            case 'w':
                if (num(s, 1, 3) > 48 || num(s, 3, 5) > 48 || num(s, 5, 6) > 2 || ws == 6) return false;
                l.walkers.add(new Walker(num(s, 1, 3), num(s, 3, 5), num(s, 5, 6)));
                return true;
            case 'l':
                if (a >= hs) return false;
                l.houses.get(a).lit = !l.houses.get(a).lit;
                return true;
            case 'g':
                if (a >= ws || num(s, 2, 4) > 48) return false;
                l.walkers.get(a).goal = num(s, 2, 4);
                return true;
            case 'o':
                int h = num(s, 2, 3);
                if (a >= ws || h >= hs) return false;
                if (l.walkers.get(a).age[h] == null) l.walkers.get(a).age[h] = 0;
                return true;
            default:
                int n = num(s, 1, 3);
                if (n < 1 || n > 60 || l.evening + n > 999) return false;
                for (int i = 0; i < n; i++) l.evening(false);
                return true;
        }
    }

    int houseOf(int house, int what) {
        if (noHouse(house)) return no(-1);
        if (what < 0 || what > 7) return no(-2);
        House h = land.houses.get(house);
        int seen = 0;
        for (int w = 0; w < land.walkers.size(); w++) {
            if (land.walkers.get(w).sees(h, land.walkers.get(w).at)) seen |= 1 << w;
        }
        return new int[] {h.kind, h.figure, h.cell, h.lit ? 1 : 0, h.reach(), h.minutes(0), land.owers(house), seen}[what];
    }

    private int sees(int walker) {
        int bits = 0;
        Walker w = land.walkers.get(walker);
        for (int h = 0; h < land.houses.size(); h++) if (w.sees(land.houses.get(h), w.at)) bits |= 1 << h;
        return bits;
    }

    int walkerOf(int walker, int what) {
        if (noWalker(walker)) return no(-1);
        if (what < 0 || what > 5) return no(-2);
        Walker w = land.walkers.get(walker);
        return new int[] {w.at, w.goal, w.sight, land.owes(walker), sees(walker), land.price(walker)}[what];
    }

    int age(int walker, int house) {
        if (noWalker(walker) || noHouse(house)) return no(-1);
        Integer a = land.walkers.get(walker).age[house];
        return a == null ? -9 : a;
    }

    int house(int kind, int figure, int cell) {
        if (kind < 0 || kind > 5) return no(-2);
        if (figure < 0) return no(-4);
        if (figure > 9 || land.houses.size() == 7) return no(-6);
        if (noCell(cell)) return no(-1);
        land.houses.add(new House(kind, figure, cell));
        before.clear();
        return land.houses.size() - 1;
    }

    int walker(int at, int goal, int sight) {
        if (noCell(at) || noCell(goal)) return no(-1);
        if (sight < 0) return no(-4);
        if (sight > 2 || land.walkers.size() == 6) return no(-6);
        land.walkers.add(new Walker(at, goal, sight));
        before.clear();
        return land.walkers.size() - 1;
    }

    int lights(int house) {
        if (noHouse(house)) return no(-1);
        remember();
        House h = land.houses.get(house);
        h.lit = !h.lit;
        return h.lit ? 1 : 0;
    }

    int goals(int walker, int cell) {
        if (noWalker(walker) || noCell(cell)) return no(-1);
        remember();
        int was = land.walkers.get(walker).goal;
        land.walkers.get(walker).goal = cell;
        return was;
    }

    int visits(int walker, int house) {
        if (noWalker(walker) || noHouse(house)) return no(-1);
        Walker w = land.walkers.get(walker);
        House h = land.houses.get(house);
        if (w.age[house] == null || w.at != h.cell) return no(-3);
        remember();
        int minutes = h.minutes(w.age[house]);
        w.age[house] = null;
        return minutes;
    }

    int trades(int house, int one, int other) {
        if (noHouse(house) || noWalker(one) || noWalker(other) || one == other) return no(-1);
        Walker a = land.walkers.get(one), b = land.walkers.get(other);
        if (a.age[house] == null || b.age[house] != null) return no(-3);
        remember();
        b.age[house] = a.age[house];
        a.age[house] = null;
        return b.age[house];
    }

    int evenings(int n) {
        if (n < 1) return no(-4);
        if (n > 60 || land.evening + n > 999) return no(-6);
        remember();
        land = land.behind(n);
        return land.debts();
    }

    int back() {
        if (before.isEmpty()) return no(-3);
        land = before.remove(before.size() - 1);
        return before.size();
    }

    int walkerIn(int walker, int n, int what) {
        if (noWalker(walker)) return no(-1);
        if (n < 0) return no(-4);
        if (n > 60) return no(-6);
        if (what < 0 || what > 2) return no(-2);
        Land l = land.behind(n);
        return new int[] {l.walkers.get(walker).at, l.owes(walker), l.price(walker)}[what];
    }

    int prices(int n) {
        if (n < 0) return no(-4);
        if (n > 60) return no(-6);
        return land.behind(n).prices();
    }

    int owed(int walker, int house) {
        if (noWalker(walker) || noHouse(house)) return no(-1);
        for (int n = 0; n <= 60; n++) if (land.behind(n).walkers.get(walker).age[house] != null) return n;
        return -9;
    }

    int home(int walker) {
        if (noWalker(walker)) return no(-1);
        for (int n = 0; n <= 60; n++) {
            Walker w = land.behind(n).walkers.get(walker);
            if (w.at == w.goal) return n;
        }
        return -9;
    }

    int richest(int what) {
        if (what < 0 || what > 1) return no(-2);
        int best = -9, most = 0;
        int n = what == 0 ? land.houses.size() : land.walkers.size();
        for (int i = 0; i < n; i++) {
            int has = what == 0 ? Integer.bitCount(land.owers(i)) : land.price(i);
            if (has > most) {
                most = has;
                best = i;
            }
        }
        return best;
    }

    /** Every place and set of houses seen that a way of so many steps can end with. */
    int way(int walker, int cell, int what) {
        if (noWalker(walker) || noCell(cell)) return no(-1);
        if (what < 0 || what > 1) return no(-2);
        Walker w = land.walkers.get(walker);
        boolean[][] can = new boolean[49][128];
        can[w.at][0] = true;
        int fewest = 99, shortest = 99;
        for (int taken = 0; taken <= off(w.at, cell) + 12; taken++) {
            for (int m = 0; m < 128; m++) {
                if (can[cell][m] && Integer.bitCount(m) < fewest) {
                    fewest = Integer.bitCount(m);
                    shortest = taken;
                }
            }
            boolean[][] next = new boolean[49][128];
            for (int from = 0; from < 49; from++) {
                for (int to = 0; to < 49; to++) {
                    if (off(from, to) != 1) continue;
                    int more = 0;
                    for (int h = 0; h < land.houses.size(); h++) {
                        if (w.age[h] == null && w.sees(land.houses.get(h), to)) more |= 1 << h;
                    }
                    for (int m = 0; m < 128; m++) if (can[from][m]) next[to][m | more] = true;
                }
            }
            can = next;
        }
        return what == 0 ? fewest : shortest;
    }

    private List<Integer> bestOrder;
    private int bestSteps;

    private void orders(int place, int steps, int left, List<Integer> order) {
        if (left == 0 && steps < bestSteps) {
            bestSteps = steps;
            bestOrder = new ArrayList<>(order);
        }
        for (int h = 0; h < land.houses.size(); h++) {
            if ((left >> h & 1) == 0) continue;
            order.add(h);
            int to = land.houses.get(h).cell;
            orders(to, steps + off(place, to), left & ~(1 << h), order);
            order.remove(order.size() - 1);
        }
    }

    int payAll(int walker, int i) {
        if (noWalker(walker)) return no(-1);
        if (i < -1) return no(-4);
        bestSteps = 999;
        orders(land.walkers.get(walker).at, 0, land.owes(walker), new ArrayList<>());
        if (i == -1) return land.price(walker) + 3 * bestSteps;
        return i < bestOrder.size() ? bestOrder.get(i) : -9;
    }

    int clear(int one, int other) {
        if (noHouse(one) || noHouse(other) || one == other) return 1000000000 - no(-1);
        int sum = 0;
        for (Walker w : land.walkers) {
            if (w.age[one] != null && w.age[other] == null) sum++;
            if (w.age[one] == null && w.age[other] != null) sum--;
        }
        return sum;
    }

    int burn(int n, int what) {
        if (n < 1) return no(-4);
        if (n > 30) return no(-6);
        if (what < 0 || what > 1) return no(-2);
        int best = 0, most = -1;
        for (int cell = 0; cell < 49; cell++) {
            House candle = new House(0, 0, cell);
            int seers = 0;
            for (Walker w : land.walkers) {
                Walker there = w.copy();
                boolean seen = false;
                for (int i = 0; i < n; i++) {
                    there.step();
                    seen |= there.sees(candle, there.at);
                }
                if (seen) seers++;
            }
            if (seers > most) {
                most = seers;
                best = cell;
            }
        }
        return what == 0 ? best : most;
    }

    int shut(int n) {
        if (n < 0) return no(-4);
        if (n > 60) return no(-6);
        int best = -9, least = land.behind(n).prices();
        for (int h = 0; h < land.houses.size(); h++) {
            if (!land.houses.get(h).lit) continue;
            Land l = land.copy();
            l.houses.get(h).lit = false;
            int p = l.behind(n).prices();
            if (p < least) {
                least = p;
                best = h;
            }
        }
        return best;
    }

    int trade(int walker, int house) {
        if (noWalker(walker) || noHouse(house)) return no(-1);
        if (land.walkers.get(walker).age[house] == null) return no(-3);
        int best = -9, least = land.burden();
        for (int o = 0; o < land.walkers.size(); o++) {
            if (land.walkers.get(o).age[house] != null) continue;
            Land l = land.copy();
            l.walkers.get(o).age[house] = l.walkers.get(walker).age[house];
            l.walkers.get(walker).age[house] = null;
            if (l.burden() < least) {
                least = l.burden();
                best = o;
            }
        }
        return best;
    }

    int whoWent(int house) {
        if (noHouse(house)) return no(-1);
        int bits = 0;
        for (int w = 0; w < land.walkers.size(); w++) {
            Walker x = land.walkers.get(w);
            if (x.at == land.houses.get(house).cell && x.age[house] != null) bits |= 1 << w;
        }
        return bits;
    }

    int spread(int what) {
        if (what < 0 || what > 1) return no(-2);
        int bits = 0;
        if (what == 0) {
            for (int w = 0; w < land.walkers.size(); w++) if (land.owes(w) == 0) bits |= 1 << w;
        } else {
            for (int h = 0; h < land.houses.size(); h++) if (Integer.bitCount(land.owers(h)) == 1) bits |= 1 << h;
        }
        return bits;
    }

    int whatKind(int walker, int house, int what) {
        if (noWalker(walker) || noHouse(house)) return no(-1);
        if (what < 0 || what > 1) return no(-2);
        int bits = 0;
        for (int v = 0; v < (what == 0 ? 6 : 10); v++) {
            Land l = land.copy();
            if (what == 0) l.houses.get(house).kind = v;
            else l.houses.get(house).figure = v;
            boolean all = true;
            for (int told : row) {
                Integer a = l.walkers.get(walker).age[house];
                all &= told == 99 ? a == null : a != null && a == told;
                l.evening(false);
            }
            if (all) bits |= 1 << v;
        }
        return bits;
    }

    private int payoff(int house, int oneHouse, int one, int otherHouse, int other, int n) {
        Land l = land.copy();
        l.houses.get(oneHouse).lit = one == 0;
        l.houses.get(otherHouse).lit = other == 0;
        int lit = l.houses.get(house).lit ? 1 : 0;
        return Integer.bitCount(l.behind(n).owers(house)) - lit;
    }

    int two(int one, int other, int n) {
        if (noHouse(one) || noHouse(other) || one == other) return no(-1);
        if (n < 0) return no(-4);
        if (n > 60) return no(-6);
        for (int a = 0; a < 2; a++) {
            for (int b = 0; b < 2; b++) {
                boolean content = payoff(one, one, a, other, b, n) >= payoff(one, one, 1 - a, other, b, n)
                    && payoff(other, one, a, other, b, n) >= payoff(other, one, a, other, 1 - b, n);
                if (content) return 10 * a + b;
            }
        }
        return -9;
    }

    private static long gcd(long a, long b) {
        return b == 0 ? a : gcd(b, a % b);
    }

    private static long part(long above, long below, int part) {
        long d = gcd(above, below);
        return part == 0 ? above / d : below / d;
    }

    long mist(int walker, int house, int n, int t, int part) {
        if (noWalker(walker) || noHouse(house)) return 4000000000000000000L - no(-1);
        if (n < 0 || t < 2) return 4000000000000000000L - no(-4);
        if (n > 7 || t > 20) return 4000000000000000000L - no(-6);
        if (part < 0 || part > 1) return 4000000000000000000L - no(-2);
        long above = 0, below = 1;
        for (int i = 0; i < n; i++) below *= t;
        for (int mists = 0; mists < 1 << n; mists++) {
            Land l = land.copy();
            long weight = 1;
            for (int i = 0; i < n; i++) {
                boolean misty = (mists >> i & 1) == 1;
                if (!misty) weight *= t - 1;
                l.evening(misty);
            }
            if (l.walkers.get(walker).age[house] != null) above += weight;
        }
        return part(above, below, part);
    }

    int oldest(int what) {
        if (what < 0 || what > 3) return no(-2);
        int age = -1, by = -9, twos = 0, dark = 0;
        for (int w = 0; w < land.walkers.size(); w++) {
            for (int h = 0; h < land.houses.size(); h++) {
                Integer a = land.walkers.get(w).age[h];
                if (a != null && a > age) {
                    age = a;
                    by = w;
                }
            }
        }
        for (int a = 0; a < land.houses.size(); a++) {
            House x = land.houses.get(a);
            if (!x.lit) dark |= 1 << a;
            for (int b = 0; b < a; b++) {
                House y = land.houses.get(b);
                if (x.lit && y.lit && off(x.cell, y.cell) < 3) twos++;
            }
        }
        return new int[] {age < 0 ? 0 : age, by, twos, dark}[what];
    }

    long mean(int part) {
        if (part < 0 || part > 1) return 4000000000000000000L - no(-2);
        if (land.walkers.isEmpty()) return part;
        return part(land.prices(), land.walkers.size(), part);
    }

    int forgiven() {
        Land l = land.copy();
        for (Walker w : l.walkers) for (int h = 0; h < 8; h++) if (w.age[h] != null) w.age[h] = 0;
        return land.prices() - l.prices();
    }

    int nearest(int walker) {
        if (noWalker(walker)) return no(-1);
        int best = -9;
        Walker w = land.walkers.get(walker);
        for (int h = 0; h < land.houses.size(); h++) {
            if (w.age[h] == null) continue;
            if (best < 0 || off(w.at, land.houses.get(h).cell) < off(w.at, land.houses.get(best).cell)) best = h;
        }
        return best;
    }

    int allSeen(int house) {
        if (noHouse(house)) return no(-1);
        House h = land.houses.get(house).copy();
        h.lit = true;
        int cells = 0;
        for (int c = 0; c < 49; c++) if (new Walker(c, c, 2).sees(h, c)) cells++;
        return cells;
    }

    int gaps() {
        for (int n = 0; n <= 60; n++) if (land.behind(n).debts() == land.behind(n + 1).debts()) return n;
        return -9;
    }

    int blind() {
        int bits = 0;
        for (int w = 0; w < land.walkers.size(); w++) if (sees(w) == 0) bits |= 1 << w;
        return bits;
    }

    int moved(int walker, int cell, int n) {
        if (noWalker(walker) || noCell(cell)) return 1000000000 - no(-1);
        if (n < 0) return 1000000000 - no(-4);
        if (n > 60) return 1000000000 - no(-6);
        Land l = land.copy();
        l.walkers.get(walker).goal = cell;
        return l.behind(n).price(walker) - land.behind(n).price(walker);
    }

    int street(int r) {
        if (r < 0 || r > 6) return no(-1);
        int sum = 0;
        for (int h = 0; h < land.houses.size(); h++) {
            for (Walker w : land.walkers) {
                if (land.houses.get(h).cell / 7 == r && w.age[h] != null) sum += land.houses.get(h).minutes(w.age[h]);
            }
        }
        return sum;
    }

    int row(int v) {
        if (v < 0) return no(-4);
        if (v > 99 || row.size() == 12) return no(-6);
        row.add(v);
        return row.size();
    }

    int judge() {
        int answer = -9;
        for (int h = row.size() - 1; h >= 0; h--) {
            if (noHouse(h) || Integer.bitCount(land.owers(h)) != row.get(h)) answer = h;
        }
        row.clear();
        return answer;
    }

    int empties() {
        int had = row.size();
        row.clear();
        return had;
    }

    private int z;

    private int draw() {
        z = z * 1103515245 + 12345;
        return (z & 0x7fffffff) / 65536 % 49;
    }

    int lots(int n, int seed, int what) {
        if (n < 1) return no(-4);
        if (n > 20) return no(-6);
        if (what < 0 || what > 1) return no(-2);
        z = seed;
        int sum = 0;
        for (int year = 0; year < n; year++) {
            Land l = land.copy();
            for (Walker w : l.walkers) {
                w.at = draw();
                w.goal = draw();
            }
            for (int e = 0; e < 12; e++) l.evening(false);
            sum += what == 0 ? l.debts() : l.prices();
        }
        return sum;
    }

    int image() {
        picture = land.copy();
        return land.evening;
    }

    int restore() {
        if (picture == null) return no(-3);
        land = picture.copy();
        before.clear();
        return land.evening;
    }

    int count(int what) {
        if (what >= 11 && what <= 16) return refused[what - 10];
        if (what < 0 || what > 7) return -9;
        return new int[] {land.houses.size(), land.walkers.size(), land.evening, land.debts(), land.prices(),
            letters.length(), row.size(), before.size()}[what];
    }
}
