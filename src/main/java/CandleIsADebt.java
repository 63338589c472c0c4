import java.util.Arrays;

/** Lit houses, walkers who owe a visit to each light they see, and what comes of it (see ../shared/DOC.md). */
public final class CandleIsADebt {
    private static final int SIDE = 7;
    private static final int CELLS = SIDE * SIDE;
    private static final int HOUSES = 7;
    /** One more than may stand: in mind a candle is set beside all the houses. */
    private static final int SLOTS = HOUSES + 1;
    private static final int WALKERS = 6;
    private static final int FIGURES = 10;
    private static final int HIGHEST_AGE = 99;
    private static final int LAST_EVENING = 999;
    private static final int FORESIGHT = 60;
    private static final int LETTERS = 96;
    private static final int NUMBERS = 12;
    private static final int HIGHEST_NUMBER = 99;
    private static final int NOT_OWED = -1;

    private static final int CANDLE = 0;
    private static final int TWO = 1;
    private static final int CURTAIN = 2;
    private static final int MOOR = 3;
    private static final int LODGER = 4;
    private static final int TRAIN = 5;
    private static final int KINDS = 6;

    private static final int HALF = 1;
    private static final int WHOLE = 2;

    private static final int NOBODY = -1;
    private static final int OTHER = -2;
    private static final int STATE = -3;
    private static final int BELOW = -4;
    private static final int ROOM = -6;
    private static final int NONE = -9;
    /** Where an answer itself may be below 0, a refusal is told as this less its number. */
    private static final int FAR = 1000000000;
    private static final long FAR_LONG = 4000000000000000000L;

    private final World now;
    private final World mind;
    private final World picture;
    private boolean pictured;
    private final History history;
    private final Letters letters;
    private final WayFinder ways;
    private final Round round;
    private final int[] numbers;
    private int numberCount;
    private final int[] refusals;

    public CandleIsADebt() {
        now = new World();
        mind = new World();
        picture = new World();
        pictured = false;
        history = new History();
        letters = new Letters();
        ways = new WayFinder();
        round = new Round();
        numbers = new int[NUMBERS];
        numberCount = 0;
        refusals = new int[1 - ROOM];
    }

    public int feed(int letter) {
        if (letter < 0) return refuse(BELOW);
        if (letter > 255 || letters.areFull()) return refuse(ROOM);
        return letters.take(letter);
    }

    public int village() {
        mind.become(now);
        int answer = letters.tell(mind);
        letters.drop();
        if (answer < 0) return answer;
        now.become(mind);
        history.forget();
        return answer;
    }

    public int houseOf(int house, int what) {
        if (!now.hasHouse(house)) return refuse(NOBODY);
        switch (what) {
            case 0: return now.kind[house];
            case 1: return now.figure[house];
            case 2: return now.cell[house];
            case 3: return now.isLit(house) ? 1 : 0;
            case 4: return reach(now.kind[house], now.figure[house]);
            case 5: return now.minutesOf(house, 0);
            case 6: return now.owersBehind(house, 0);
            case 7: return now.seenBy(house);
            default: return refuse(OTHER);
        }
    }

    public int walkerOf(int walker, int what) {
        if (!now.hasWalker(walker)) return refuse(NOBODY);
        switch (what) {
            case 0: return now.at[walker];
            case 1: return now.goal[walker];
            case 2: return now.sight[walker];
            case 3: return now.owesBehind(walker, 0);
            case 4: return now.seesFrom(walker, now.at[walker]);
            case 5: return now.priceBehind(walker, 0);
            default: return refuse(OTHER);
        }
    }

    public int age(int walker, int house) {
        if (!now.hasWalker(walker) || !now.hasHouse(house)) return refuse(NOBODY);
        return now.owes(walker, house) ? now.ageBehind(walker, house, 0) : NONE;
    }

    public int house(int kind, int figure, int cell) {
        if (kind < 0 || kind >= KINDS) return refuse(OTHER);
        if (figure < 0) return refuse(BELOW);
        if (figure >= FIGURES || now.houseCount >= HOUSES) return refuse(ROOM);
        if (!isCell(cell)) return refuse(NOBODY);
        now.addHouse(kind, figure, cell);
        history.forget();
        return now.houseCount - 1;
    }

    public int walker(int at, int goal, int sight) {
        if (!isCell(at) || !isCell(goal)) return refuse(NOBODY);
        if (sight < 0) return refuse(BELOW);
        if (sight > WHOLE || now.walkerCount >= WALKERS) return refuse(ROOM);
        now.addWalker(at, goal, sight);
        history.forget();
        return now.walkerCount - 1;
    }

    public int lights(int house) {
        if (!now.hasHouse(house)) return refuse(NOBODY);
        history.keep(now);
        now.turn(house);
        return now.isLit(house) ? 1 : 0;
    }

    public int goals(int walker, int cell) {
        if (!now.hasWalker(walker) || !isCell(cell)) return refuse(NOBODY);
        int before = now.goal[walker];
        history.keep(now);
        now.aim(walker, cell);
        return before;
    }

    public int visits(int walker, int house) {
        if (!now.hasWalker(walker) || !now.hasHouse(house)) return refuse(NOBODY);
        if (!now.owes(walker, house) || now.at[walker] != now.cell[house]) return refuse(STATE);
        int minutes = now.minutesBehind(walker, house, 0);
        history.keep(now);
        now.setDebt(walker, house, NOT_OWED);
        return minutes;
    }

    public int trades(int house, int one, int other) {
        if (!now.hasHouse(house) || !now.hasWalker(one) || !now.hasWalker(other)) return refuse(NOBODY);
        if (one == other) return refuse(NOBODY);
        if (!now.owes(one, house) || now.owes(other, house)) return refuse(STATE);
        int age = now.ageBehind(one, house, 0);
        history.keep(now);
        now.setDebt(one, house, NOT_OWED);
        now.setDebt(other, house, age);
        return age;
    }

    public int evenings(int n) {
        if (n < 1) return refuse(BELOW);
        if (n > FORESIGHT || now.evening + n > LAST_EVENING) return refuse(ROOM);
        history.keep(now);
        now.pass(n);
        return now.debtsBehind(0);
    }

    public int back() {
        if (history.size == 0) return refuse(STATE);
        history.takeBack(now);
        return history.size;
    }

    public int walkerIn(int walker, int n, int what) {
        if (!now.hasWalker(walker)) return refuse(NOBODY);
        if (n < 0) return refuse(BELOW);
        if (n > FORESIGHT) return refuse(ROOM);
        switch (what) {
            case 0: return now.placeBehind(walker, n);
            case 1: return now.owesBehind(walker, n);
            case 2: return now.priceBehind(walker, n);
            default: return refuse(OTHER);
        }
    }

    public int prices(int n) {
        if (n < 0) return refuse(BELOW);
        if (n > FORESIGHT) return refuse(ROOM);
        return now.pricesBehind(n);
    }

    public int owed(int walker, int house) {
        if (!now.hasWalker(walker) || !now.hasHouse(house)) return refuse(NOBODY);
        if (now.owes(walker, house)) return 0;
        return now.firstSighting(walker, house, FORESIGHT);
    }

    public int home(int walker) {
        if (!now.hasWalker(walker)) return refuse(NOBODY);
        return steps(now.at[walker], now.goal[walker]);
    }

    public int richest(int what) {
        if (what != 0 && what != 1) return refuse(OTHER);
        return what == 0 ? mostOwed() : debtor();
    }

    public int way(int walker, int cell, int what) {
        if (!now.hasWalker(walker) || !isCell(cell)) return refuse(NOBODY);
        if (what != 0 && what != 1) return refuse(OTHER);
        ways.find(now, walker, cell);
        return what == 0 ? ways.more : ways.length;
    }

    public int payAll(int walker, int i) {
        if (!now.hasWalker(walker)) return refuse(NOBODY);
        if (i < -1) return refuse(BELOW);
        round.plan(now, walker);
        if (i == -1) return now.priceBehind(walker, 0) + 3 * round.fewest(now, now.at[walker], round.all);
        return round.stop(now, now.at[walker], i);
    }

    public int clear(int one, int other) {
        if (!now.hasHouse(one) || !now.hasHouse(other) || one == other) return FAR - refuse(NOBODY);
        int owingOne = now.owersBehind(one, 0);
        int owingOther = now.owersBehind(other, 0);
        return Integer.bitCount(owingOne & ~owingOther) - Integer.bitCount(owingOther & ~owingOne);
    }

    public int burn(int n, int what) {
        if (n < 1) return refuse(BELOW);
        if (n > 30) return refuse(ROOM);
        if (what != 0 && what != 1) return refuse(OTHER);
        int bestCell = 0;
        int most = 0;
        mind.become(now);
        int candle = mind.setCandle();
        for (int cell = 0; cell < CELLS; cell++) {
            mind.cell[candle] = cell;
            int seers = Integer.bitCount(mind.owersBehind(candle, n));
            if (seers > most) {
                most = seers;
                bestCell = cell;
            }
        }
        return what == 0 ? bestCell : most;
    }

    public int shut(int n) {
        if (n < 0) return refuse(BELOW);
        if (n > FORESIGHT) return refuse(ROOM);
        int best = NONE;
        int least = now.pricesBehind(n);
        for (int house = 0; house < now.houseCount; house++) {
            if (!now.isLit(house)) continue;
            mind.become(now);
            mind.turn(house);
            int prices = mind.pricesBehind(n);
            if (prices < least) {
                least = prices;
                best = house;
            }
        }
        return best;
    }

    public int trade(int walker, int house) {
        if (!now.hasWalker(walker) || !now.hasHouse(house)) return refuse(NOBODY);
        if (!now.owes(walker, house)) return refuse(STATE);
        int best = NONE;
        int least = now.burden();
        for (int other = 0; other < now.walkerCount; other++) {
            if (now.owes(other, house)) continue;
            mind.become(now);
            mind.setDebt(walker, house, NOT_OWED);
            mind.setDebt(other, house, now.ageBehind(walker, house, 0));
            int burden = mind.burden();
            if (burden < least) {
                least = burden;
                best = other;
            }
        }
        return best;
    }

    public int whoWent(int house) {
        if (!now.hasHouse(house)) return refuse(NOBODY);
        int went = 0;
        for (int walker = 0; walker < now.walkerCount; walker++) {
            if (now.at[walker] == now.cell[house] && now.owes(walker, house)) went |= 1 << walker;
        }
        return went;
    }

    public int spread(int what) {
        if (what != 0 && what != 1) return refuse(OTHER);
        return what == 0 ? debtless() : owedByOne();
    }

    public int whatKind(int walker, int house, int what) {
        if (!now.hasWalker(walker) || !now.hasHouse(house)) return refuse(NOBODY);
        if (what != 0 && what != 1) return refuse(OTHER);
        return what == 0 ? fittingKinds(walker, house) : fittingFigures(walker, house);
    }

    public int two(int one, int other, int n) {
        if (!now.hasHouse(one) || !now.hasHouse(other) || one == other) return refuse(NOBODY);
        if (n < 0) return refuse(BELOW);
        if (n > FORESIGHT) return refuse(ROOM);
        // Neither's choice touches what the other is owed, so each one's own best makes the first pair.
        return 10 * bestShutter(one, n) + bestShutter(other, n);
    }

    public long mist(int walker, int house, int n, int t, int part) {
        if (!now.hasWalker(walker) || !now.hasHouse(house)) return refuseLong(NOBODY);
        if (n < 0 || t < 2) return refuseLong(BELOW);
        if (n > 7 || t > 20) return refuseLong(ROOM);
        if (part != 0 && part != 1) return refuseLong(OTHER);
        if (now.owes(walker, house)) return 1;
        // Not owed only if each evening of a sighting is misty; t^k - 1 over t^k is in lowest terms.
        int sightings = now.sightings(walker, house, n);
        long below = 1;
        for (int i = 0; i < sightings; i++) below *= t;
        return part == 0 ? below - 1 : below;
    }

    public int oldest(int what) {
        switch (what) {
            case 0: return Math.max(0, highestAge());
            case 1: return longestOwing();
            case 2: return lane();
            case 3: return ((1 << now.houseCount) - 1) & ~now.lit;
            default: return refuse(OTHER);
        }
    }

    public long mean(int part) {
        if (part != 0 && part != 1) return refuseLong(OTHER);
        int prices = now.pricesBehind(0);
        int divisor = 1;
        for (int d = 2; d <= now.walkerCount; d++) {
            if (prices % d == 0 && now.walkerCount % d == 0) divisor = d;
        }
        return part == 0 ? prices / divisor : Math.max(1, now.walkerCount) / divisor;
    }

    public int forgiven() {
        int less = 0;
        for (int walker = 0; walker < now.walkerCount; walker++) {
            for (int house = 0; house < now.houseCount; house++) {
                if (!now.owes(walker, house)) continue;
                less += now.minutesBehind(walker, house, 0) - now.minutesOf(house, 0);
            }
        }
        return less;
    }

    public int nearest(int walker) {
        if (!now.hasWalker(walker)) return refuse(NOBODY);
        int best = NONE;
        int least = CELLS;
        for (int house = 0; house < now.houseCount; house++) {
            int off = steps(now.at[walker], now.cell[house]);
            if (now.owes(walker, house) && off < least) {
                least = off;
                best = house;
            }
        }
        return best;
    }

    public int allSeen(int house) {
        if (!now.hasHouse(house)) return refuse(NOBODY);
        int farthest = reach(now.kind[house], now.figure[house]);
        int seen = 0;
        for (int cell = 0; cell < CELLS; cell++) {
            if (steps(cell, now.cell[house]) <= farthest) seen++;
        }
        return seen;
    }

    public int gaps() {
        long growing = eveningsOfNewDebts();
        for (int n = 0; n <= FORESIGHT; n++) {
            if ((growing >> (n + 1) & 1) == 0) return n;
        }
        return NONE;
    }

    public int blind() {
        int unseeing = 0;
        for (int walker = 0; walker < now.walkerCount; walker++) {
            if (now.seesFrom(walker, now.at[walker]) == 0) unseeing |= 1 << walker;
        }
        return unseeing;
    }

    public int moved(int walker, int cell, int n) {
        if (!now.hasWalker(walker) || !isCell(cell)) return FAR - refuse(NOBODY);
        if (n < 0) return FAR - refuse(BELOW);
        if (n > FORESIGHT) return FAR - refuse(ROOM);
        mind.become(now);
        mind.aim(walker, cell);
        return mind.priceBehind(walker, n) - now.priceBehind(walker, n);
    }

    public int street(int row) {
        if (row < 0 || row >= SIDE) return refuse(NOBODY);
        int minutes = 0;
        for (int house = 0; house < now.houseCount; house++) {
            if (now.cell[house] / SIDE != row) continue;
            for (int walker = 0; walker < now.walkerCount; walker++) {
                minutes += now.minutesBehind(walker, house, 0);
            }
        }
        return minutes;
    }

    public int row(int v) {
        if (v < 0) return refuse(BELOW);
        if (v > HIGHEST_NUMBER || numberCount >= NUMBERS) return refuse(ROOM);
        numbers[numberCount] = v;
        numberCount++;
        return numberCount;
    }

    public int judge() {
        int told = numberCount;
        numberCount = 0;
        for (int house = 0; house < told; house++) {
            if (!now.hasHouse(house)) return house;
            if (Integer.bitCount(now.owersBehind(house, 0)) != numbers[house]) return house;
        }
        return NONE;
    }

    public int empties() {
        int had = numberCount;
        numberCount = 0;
        return had;
    }

    public int lots(int n, int z, int what) {
        if (n < 1) return refuse(BELOW);
        if (n > 20) return refuse(ROOM);
        if (what != 0 && what != 1) return refuse(OTHER);
        int sum = 0;
        int seed = z;
        mind.become(now);
        for (int year = 0; year < n; year++) {
            for (int walker = 0; walker < mind.walkerCount; walker++) {
                seed = nextSeed(seed);
                mind.at[walker] = drawnCell(seed);
                seed = nextSeed(seed);
                mind.goal[walker] = drawnCell(seed);
            }
            sum += what == 0 ? mind.debtsBehind(12) : mind.pricesBehind(12);
        }
        return sum;
    }

    public int image() {
        picture.become(now);
        pictured = true;
        return now.evening;
    }

    public int restore() {
        if (!pictured) return refuse(STATE);
        now.become(picture);
        history.forget();
        return now.evening;
    }

    public int count(int what) {
        switch (what) {
            case 0: return now.houseCount;
            case 1: return now.walkerCount;
            case 2: return now.evening;
            case 3: return now.debtsBehind(0);
            case 4: return now.pricesBehind(0);
            case 5: return letters.length;
            case 6: return numberCount;
            case 7: return history.size;
            default: return what >= 11 && what <= 16 ? refusals[what - 10] : NONE;
        }
    }

    private int refuse(int number) {
        refusals[-number]++;
        return number;
    }

    private long refuseLong(int number) {
        return FAR_LONG - refuse(number);
    }

    private int mostOwed() {
        int best = NONE;
        int most = 0;
        for (int house = 0; house < now.houseCount; house++) {
            int owers = Integer.bitCount(now.owersBehind(house, 0));
            if (owers > most) {
                most = owers;
                best = house;
            }
        }
        return best;
    }

    private int debtor() {
        int best = NONE;
        int highest = 0;
        for (int walker = 0; walker < now.walkerCount; walker++) {
            int price = now.priceBehind(walker, 0);
            if (price > highest) {
                highest = price;
                best = walker;
            }
        }
        return best;
    }

    private int debtless() {
        int free = 0;
        for (int walker = 0; walker < now.walkerCount; walker++) {
            if (now.owesBehind(walker, 0) == 0) free |= 1 << walker;
        }
        return free;
    }

    private int owedByOne() {
        int sure = 0;
        for (int house = 0; house < now.houseCount; house++) {
            if (Integer.bitCount(now.owersBehind(house, 0)) == 1) sure |= 1 << house;
        }
        return sure;
    }

    private int fittingKinds(int walker, int house) {
        int fitting = 0;
        mind.become(now);
        for (int kind = 0; kind < KINDS; kind++) {
            mind.kind[house] = kind;
            if (fitsNumbers(walker, house)) fitting |= 1 << kind;
        }
        return fitting;
    }

    private int fittingFigures(int walker, int house) {
        int fitting = 0;
        mind.become(now);
        for (int figure = 0; figure < FIGURES; figure++) {
            mind.figure[house] = figure;
            if (fitsNumbers(walker, house)) fitting |= 1 << figure;
        }
        return fitting;
    }

    private boolean fitsNumbers(int walker, int house) {
        for (int n = 0; n < numberCount; n++) {
            // 99 tells that nothing is owed, so no debt of that age fits it.
            int told = numbers[n] == HIGHEST_NUMBER ? NOT_OWED : numbers[n];
            if (mind.ageBehind(walker, house, n) != told) return false;
        }
        return true;
    }

    /** 1 if the house has more by being dark, 0 if it has as much or more by being lit. */
    private int bestShutter(int house, int n) {
        mind.become(now);
        mind.lit |= 1 << house;
        int asLit = Integer.bitCount(mind.owersBehind(house, n)) - 1;
        mind.turn(house);
        int asDark = Integer.bitCount(mind.owersBehind(house, n));
        return asDark > asLit ? 1 : 0;
    }

    private int highestAge() {
        int highest = NOT_OWED;
        for (int walker = 0; walker < now.walkerCount; walker++) {
            highest = Math.max(highest, now.highestAgeOf(walker));
        }
        return highest;
    }

    private int longestOwing() {
        int highest = highestAge();
        for (int walker = 0; walker < now.walkerCount; walker++) {
            if (highest != NOT_OWED && now.highestAgeOf(walker) == highest) return walker;
        }
        return NONE;
    }

    private int lane() {
        int twos = 0;
        for (int one = 0; one < now.houseCount; one++) {
            for (int other = one + 1; other < now.houseCount; other++) {
                boolean bothLit = now.isLit(one) && now.isLit(other);
                if (bothLit && steps(now.cell[one], now.cell[other]) <= 2) twos++;
            }
        }
        return twos;
    }

    /** Bit n: in the n-th evening from now somebody comes to owe one thing more. */
    private long eveningsOfNewDebts() {
        long growing = 0;
        for (int walker = 0; walker < now.walkerCount; walker++) {
            for (int house = 0; house < now.houseCount; house++) {
                if (now.owes(walker, house)) continue;
                int first = now.firstSighting(walker, house, FORESIGHT + 1);
                if (first > 0) growing |= 1L << first;
            }
        }
        return growing;
    }

    private static int nextSeed(int seed) {
        return seed * 1103515245 + 12345;
    }

    private static int drawnCell(int seed) {
        return (seed & 0x7fffffff) / 65536 % CELLS;
    }

    private static boolean isCell(int cell) {
        return cell >= 0 && cell < CELLS;
    }

    private static int steps(int one, int other) {
        return Math.abs(one / SIDE - other / SIDE) + Math.abs(one % SIDE - other % SIDE);
    }

    /** One step towards the goal, along its rows before its columns. */
    private static int stepTowards(int place, int goal) {
        if (place / SIDE < goal / SIDE) return place + SIDE;
        if (place / SIDE > goal / SIDE) return place - SIDE;
        return place + Integer.compare(goal, place);
    }

    private static int reach(int kind, int figure) {
        switch (kind) {
            case CANDLE: return 2;
            case TWO: return 3;
            case MOOR: return 2 + figure / 2;
            case LODGER: return 1;
            case TRAIN: return 4 + figure / 2;
            default: return 0; // CURTAIN
        }
    }

    private static int minutes(int kind, int figure, int age) {
        int candle = figure + 5;
        switch (kind) {
            case TWO: return 2 * candle;
            case CURTAIN: return candle / 2;
            case MOOR: return candle + 20;
            case LODGER: return candle / 2 + age;
            case TRAIN: return candle + 20 + 2 * age;
            default: return candle; // CANDLE
        }
    }

    /**
     * All there is of part I: houses, walkers, debts and the evening.
     * What one walker owes one house hangs on no other walker or house, so each debt n evenings on
     * is told by its age now and by the first evening in which he sees the house.
     */
    private static final class World {
        int houseCount;
        final int[] kind = new int[SLOTS];
        final int[] figure = new int[SLOTS];
        final int[] cell = new int[SLOTS];
        int lit;
        int walkerCount;
        final int[] at = new int[WALKERS];
        final int[] goal = new int[WALKERS];
        final int[] sight = new int[WALKERS];
        /** By walker, then house: the age of the debt, or NOT_OWED. */
        final int[] debts = new int[WALKERS * SLOTS];
        int evening;

        World() {
            Arrays.fill(debts, NOT_OWED);
        }

        void become(World other) {
            houseCount = other.houseCount;
            System.arraycopy(other.kind, 0, kind, 0, SLOTS);
            System.arraycopy(other.figure, 0, figure, 0, SLOTS);
            System.arraycopy(other.cell, 0, cell, 0, SLOTS);
            lit = other.lit;
            walkerCount = other.walkerCount;
            System.arraycopy(other.at, 0, at, 0, WALKERS);
            System.arraycopy(other.goal, 0, goal, 0, WALKERS);
            System.arraycopy(other.sight, 0, sight, 0, WALKERS);
            System.arraycopy(other.debts, 0, debts, 0, WALKERS * SLOTS);
            evening = other.evening;
        }

        boolean hasHouse(int h) {
            return h >= 0 && h < houseCount;
        }

        boolean hasWalker(int w) {
            return w >= 0 && w < walkerCount;
        }

        boolean isLit(int h) {
            return (lit >> h & 1) != 0;
        }

        /** Whether it could be; like the other changes below, one that cannot be leaves all as it was. */
        boolean addHouse(int newKind, int newFigure, int newCell) {
            if (newKind < 0 || newKind >= KINDS || newFigure < 0 || newFigure >= FIGURES) return false;
            if (!isCell(newCell) || houseCount >= HOUSES) return false;
            kind[houseCount] = newKind;
            figure[houseCount] = newFigure;
            cell[houseCount] = newCell;
            lit |= 1 << houseCount;
            houseCount++;
            return true;
        }

        /** Sets a candle that is no house of the village, in a cell yet to be told, and tells its slot. */
        int setCandle() {
            kind[houseCount] = CANDLE;
            figure[houseCount] = 0;
            lit |= 1 << houseCount;
            return houseCount;
        }

        boolean addWalker(int newAt, int newGoal, int newSight) {
            if (!isCell(newAt) || !isCell(newGoal)) return false;
            if (newSight < 0 || newSight > WHOLE || walkerCount >= WALKERS) return false;
            at[walkerCount] = newAt;
            goal[walkerCount] = newGoal;
            sight[walkerCount] = newSight;
            walkerCount++;
            return true;
        }

        /** What is lit becomes dark, what is dark lit. */
        boolean turn(int h) {
            if (!hasHouse(h)) return false;
            lit ^= 1 << h;
            return true;
        }

        boolean aim(int w, int newGoal) {
            if (!hasWalker(w) || !isCell(newGoal)) return false;
            goal[w] = newGoal;
            return true;
        }

        boolean addDebt(int w, int h) {
            if (!hasWalker(w) || !hasHouse(h)) return false;
            if (!owes(w, h)) setDebt(w, h, 0);
            return true;
        }

        boolean pass(int n) {
            if (n < 1 || n > FORESIGHT || evening + n > LAST_EVENING) return false;
            for (int w = 0; w < walkerCount; w++) {
                for (int h = 0; h < houseCount; h++) setDebt(w, h, ageBehind(w, h, n));
                at[w] = placeBehind(w, n);
            }
            evening += n;
            return true;
        }

        void setDebt(int w, int h, int age) {
            debts[w * SLOTS + h] = age;
        }

        boolean owes(int w, int h) {
            return debts[w * SLOTS + h] != NOT_OWED;
        }

        int minutesOf(int h, int age) {
            return minutes(kind[h], figure[h], age);
        }

        /** How many steps off the walker sees the house; -1: never. */
        int rangeOf(int w, int h) {
            if (!isLit(h)) return -1;
            int whole = reach(kind[h], figure[h]);
            if (sight[w] == WHOLE) return whole;
            return sight[w] == HALF ? whole / 2 : -1;
        }

        /** Houses (bits) that the walker would see from a place. */
        int seesFrom(int w, int place) {
            int seen = 0;
            for (int h = 0; h < houseCount; h++) {
                if (steps(place, cell[h]) <= rangeOf(w, h)) seen |= 1 << h;
            }
            return seen;
        }

        int seenBy(int h) {
            int seers = 0;
            for (int w = 0; w < walkerCount; w++) {
                if (steps(at[w], cell[h]) <= rangeOf(w, h)) seers |= 1 << w;
            }
            return seers;
        }

        int placeBehind(int w, int n) {
            int place = at[w];
            for (int k = 1; k <= n && place != goal[w]; k++) place = stepTowards(place, goal[w]);
            return place;
        }

        /** The first of the next n evenings in which the walker would see the house, or NONE. */
        int firstSighting(int w, int h, int n) {
            int range = rangeOf(w, h);
            if (range < 0) return NONE;
            int place = at[w];
            for (int k = 1; k <= n; k++) {
                place = stepTowards(place, goal[w]);
                if (steps(place, cell[h]) <= range) return k;
                // There he stays, and what he has not seen by then he never sees.
                if (place == goal[w]) return NONE;
            }
            return NONE;
        }

        /** In how many of the next n evenings the walker would see the house. */
        int sightings(int w, int h, int n) {
            int times = 0;
            for (int k = 1; k <= n; k++) {
                if (steps(placeBehind(w, k), cell[h]) <= rangeOf(w, h)) times++;
            }
            return times;
        }

        int ageBehind(int w, int h, int n) {
            int age = debts[w * SLOTS + h];
            if (age != NOT_OWED) return Math.min(HIGHEST_AGE, age + n);
            int first = firstSighting(w, h, n);
            return first > 0 ? n - first : NOT_OWED;
        }

        int minutesBehind(int w, int h, int n) {
            int age = ageBehind(w, h, n);
            return age == NOT_OWED ? 0 : minutesOf(h, age);
        }

        int priceBehind(int w, int n) {
            int price = 0;
            for (int h = 0; h < houseCount; h++) price += minutesBehind(w, h, n);
            return price;
        }

        int pricesBehind(int n) {
            int prices = 0;
            for (int w = 0; w < walkerCount; w++) {
                for (int h = 0; h < houseCount; h++) prices += minutesBehind(w, h, n);
            }
            return prices;
        }

        int owesBehind(int w, int n) {
            int owing = 0;
            for (int h = 0; h < houseCount; h++) {
                if (ageBehind(w, h, n) != NOT_OWED) owing |= 1 << h;
            }
            return owing;
        }

        int owersBehind(int h, int n) {
            int owers = 0;
            for (int w = 0; w < walkerCount; w++) {
                if (ageBehind(w, h, n) != NOT_OWED) owers |= 1 << w;
            }
            return owers;
        }

        int debtsBehind(int n) {
            int owing = 0;
            for (int w = 0; w < walkerCount; w++) owing += Integer.bitCount(owesBehind(w, n));
            return owing;
        }

        /** All prices, each one's above 30 counted twice. */
        int burden() {
            int sum = 0;
            for (int w = 0; w < walkerCount; w++) {
                int price = priceBehind(w, 0);
                sum += price > 30 ? 2 * price : price;
            }
            return sum;
        }

        int highestAgeOf(int w) {
            int highest = NOT_OWED;
            for (int h = 0; h < houseCount; h++) highest = Math.max(highest, debts[w * SLOTS + h]);
            return highest;
        }
    }

    /** The worlds before the latest changes, in a ring so that none is made anew. */
    private static final class History {
        private static final int ROOMS = 8;
        private final World[] kept = new World[ROOMS];
        private int next;
        int size;

        History() {
            for (int i = 0; i < ROOMS; i++) kept[i] = new World();
        }

        void keep(World world) {
            kept[next].become(world);
            next = (next + 1) % ROOMS;
            size = Math.min(ROOMS, size + 1);
        }

        void takeBack(World world) {
            if (size == 0) return;
            next = (next + ROOMS - 1) % ROOMS;
            size--;
            world.become(kept[next]);
        }

        void forget() {
            size = 0;
        }
    }

    /** The letters that have come, and the village that they tell. */
    private static final class Letters {
        private final int[] signs = new int[LETTERS];
        int length;

        boolean areFull() {
            return length >= LETTERS;
        }

        int take(int letter) {
            if (areFull()) return length;
            signs[length] = letter;
            length++;
            return length;
        }

        void drop() {
            length = 0;
        }

        /** Tells the world what the letters say: how many statements, or the fault. */
        int tell(World world) {
            int misspelt = firstMisspelt();
            if (misspelt != NONE) return -1000 - misspelt;
            int statements = 0;
            int start = 0;
            for (int place = 0; place < length; place++) {
                if (signs[place] != ';') continue;
                if (!tellStatement(world, start)) return -2000 - start;
                statements++;
                start = place + 1;
            }
            return statements;
        }

        /** The place of the first letter with which no village can go on (the end, if something lacks), or NONE. */
        private int firstMisspelt() {
            boolean begun = false;
            int lacking = 0;
            for (int place = 0; place < length; place++) {
                int sign = signs[place];
                if (!begun) {
                    lacking = digitsBehind(sign);
                    if (lacking == 0) return place;
                    begun = true;
                } else if (lacking > 0) {
                    if (sign < '0' || sign > '9') return place;
                    lacking--;
                } else {
                    if (sign != ';') return place;
                    begun = false;
                }
            }
            return begun || length == 0 ? length : NONE;
        }

        /** How many digits stand behind the letter that a statement begins with; 0: none begins so. */
        private static int digitsBehind(int letter) {
            switch (letter) {
                case 'h': return 4;
                case 'w': return 5;
                case 'l': return 1;
                case 'g': return 3;
                case 'o': return 2;
                case 'e': return 2;
                default: return 0;
            }
        }

        private boolean tellStatement(World world, int place) {
            switch (signs[place]) {
                case 'h': return world.addHouse(digit(place + 1), digit(place + 2), pair(place + 3));
                case 'w': return world.addWalker(pair(place + 1), pair(place + 3), digit(place + 5));
                case 'l': return world.turn(digit(place + 1));
                case 'g': return world.aim(digit(place + 1), pair(place + 2));
                case 'o': return world.addDebt(digit(place + 1), digit(place + 2));
                case 'e': return world.pass(pair(place + 1));
                default: return false;
            }
        }

        private int digit(int place) {
            return place < length ? signs[place] - '0' : 0;
        }

        private int pair(int place) {
            return 10 * digit(place) + digit(place + 1);
        }
    }

    /** Ways over the map that make as little new debt as can be, told in bits of cells. */
    private static final class WayFinder {
        private static final int DETOUR = 12;
        private static final long FIRST_COLUMN = 0x40810204081L;
        private static final long LAST_COLUMN = FIRST_COLUMN << (SIDE - 1);
        /** By cell: the houses he would owe more for having been there. */
        private final int[] costs = new int[CELLS];
        int more;
        int length;

        void find(World world, int walker, int to) {
            int from = world.at[walker];
            int owed = world.owesBehind(walker, 0);
            for (int cell = 0; cell < CELLS; cell++) costs[cell] = world.seesFrom(walker, cell) & ~owed;
            more = 0;
            length = 0;
            if (from == to) return;
            int houses = world.houseCount;
            for (int size = 0; size < houses; size++) {
                more = size;
                length = shortestAt(size, houses, from, to);
                if (length != NONE) return;
            }
            // A way that may cost everything is the straight one.
            more = houses;
            length = steps(from, to);
        }

        /** The steps of the shortest way that costs no more than some so many houses, or NONE. */
        private int shortestAt(int size, int houses, int from, int to) {
            int shortest = NONE;
            for (int allowed = 0; allowed < 1 << houses; allowed++) {
                if (Integer.bitCount(allowed) != size || (costs[to] & ~allowed) != 0) continue;
                int found = shortestOver(openCells(allowed), from, to);
                if (found != NONE && (shortest == NONE || found < shortest)) shortest = found;
            }
            return shortest;
        }

        private long openCells(int allowed) {
            long open = 0;
            for (int cell = 0; cell < CELLS; cell++) {
                if ((costs[cell] & ~allowed) == 0) open |= 1L << cell;
            }
            return open;
        }

        private static int shortestOver(long open, int from, int to) {
            int most = steps(from, to) + DETOUR;
            long reached = 1L << from;
            for (int taken = 1; taken <= most; taken++) {
                long sideways = (reached & ~LAST_COLUMN) << 1 | (reached & ~FIRST_COLUMN) >>> 1;
                reached = (reached | reached << SIDE | reached >>> SIDE | sideways) & open;
                if ((reached >>> to & 1) != 0) return taken;
            }
            return NONE;
        }
    }

    /** The shortest round over the doors of all that one owes. */
    private static final class Round {
        /** By the bits of the houses still to visit, then the house one stands at: the fewest steps left. */
        private final int[] left = new int[(1 << HOUSES) * HOUSES];
        int all;

        void plan(World world, int walker) {
            all = world.owesBehind(walker, 0);
            for (int rest = 0; rest <= all; rest++) {
                if ((rest & ~all) != 0) continue;
                for (int h = 0; h < world.houseCount; h++) {
                    left[rest * HOUSES + h] = fewest(world, world.cell[h], rest);
                }
            }
        }

        int fewest(World world, int from, int rest) {
            int h = nextDoor(world, from, rest);
            return h == NONE ? 0 : stepsBy(world, from, rest, h);
        }

        /** The i-th house of the first shortest round, or NONE. */
        int stop(World world, int start, int i) {
            int rest = all;
            int place = start;
            for (int k = 0; k < HOUSES; k++) {
                int h = nextDoor(world, place, rest);
                if (h == NONE || k == i) return h;
                place = world.cell[h];
                rest &= ~(1 << h);
            }
            return NONE;
        }

        /** The first house with which a shortest round over the rest can go on, or NONE. */
        private int nextDoor(World world, int from, int rest) {
            int best = NONE;
            int least = 0;
            for (int h = 0; h < world.houseCount; h++) {
                if ((rest >> h & 1) == 0) continue;
                int off = stepsBy(world, from, rest, h);
                if (best == NONE || off < least) {
                    least = off;
                    best = h;
                }
            }
            return best;
        }

        private int stepsBy(World world, int from, int rest, int h) {
            return steps(from, world.cell[h]) + left[(rest & ~(1 << h)) * HOUSES + h];
        }
    }
}
