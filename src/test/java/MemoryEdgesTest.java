/** Parts III and IV, promises 14 and 31 to 46: a test for each sentence that names an edge, which stands above it. */
public final class MemoryEdgesTest {
    private static final Due due = new Due();
    private static final long FAR_LONG = 4000000000000000000L;

    public static void main(String[] args) throws ReflectiveOperationException {
        Due.all(MemoryEdgesTest.class);
        due.end();
    }

    /** "TAKEN BACK: how many can still be. -3 none". */
    static void nothingToTakeBack() {
        CandleIsADebt x = new CandleIsADebt();
        due.is("a new object", x.back(), -3);
        x.house(0, 0, 0);
        due.is("behind a house", x.back(), -3);
        x.lights(0);
        due.is("one", x.back(), 0);
        due.is("none more", x.back(), -3);
        due.is("the house is still there", x.count(0), 1);
        due.is("refused -3", x.count(13), 3);
    }

    /** "the latest first, 8 at most (older ones no more; ..)": 7, 8, 9 and 20 changes. */
    static void eightAtMost() {
        int[] changes = {7, 8, 9, 20};
        for (int n : changes) {
            CandleIsADebt x = Due.village("w24000");
            for (int i = 1; i <= n; i++) x.goals(0, i);
            int held = Math.min(8, n);
            due.is("of " + n, x.count(7), held);
            for (int i = 1; i <= held; i++) {
                due.is("still", x.back(), held - i);
                due.is("goal", x.walkerOf(0, 1), n - i);
            }
            due.is("no more", x.back(), -3);
            due.is("goal is the oldest that is known", x.walkerOf(0, 1), n - held);
        }
    }

    /** "the latest first": some taken back and others made, past the eighth. */
    static void takenBackAndMadeAnew() {
        CandleIsADebt x = Due.village("w24000");
        for (int i = 1; i <= 11; i++) x.goals(0, i);
        for (int i = 10; i >= 6; i--) {
            x.back();
            due.is("goal", x.walkerOf(0, 1), i);
        }
        due.is("three are left", x.count(7), 3);
        for (int i = 21; i <= 24; i++) x.goals(0, i);
        due.is("and four more", x.count(7), 7);
        int[] goals = {23, 22, 21, 6, 5, 4, 3};
        for (int goal : goals) {
            x.back();
            due.is("goal then", x.walkerOf(0, 1), goal);
        }
        due.is("none", x.back(), -3);
    }

    /** "What lights(), goals(), visits(), trades(), evenings() changed": each comes back whole. */
    static void eachChangeComesBack() {
        CandleIsADebt x = Due.village("h4024; h4000; l1; w24240; w06002; w00002; o00; o11; e05");
        x.image();
        int[] before = told(x);
        x.lights(1);
        due.is("lights: still", x.back(), 0);
        same("lights", x, before);
        x.goals(1, 48);
        due.is("goals: still", x.back(), 0);
        same("goals", x, before);
        due.is("a visit", x.visits(0, 0), 7);
        due.is("visits: still", x.back(), 0);
        same("visits", x, before);
        due.is("a trade", x.trades(0, 0, 2), 5);
        due.is("trades: still", x.back(), 0);
        same("trades", x, before);
        x.evenings(60);
        due.is("evenings: still", x.back(), 0);
        same("evenings", x, before);
    }

    private static int[] told(CandleIsADebt x) {
        return new int[] {x.count(0), x.count(1), x.count(2), x.count(3), x.count(4), x.houseOf(0, 3), x.houseOf(1, 3),
            x.walkerOf(0, 0), x.walkerOf(1, 0), x.walkerOf(1, 1), x.walkerOf(2, 0), x.age(0, 0), x.age(1, 1), x.age(2, 0),
            x.age(2, 1), x.age(0, 1), x.age(1, 0)};
    }

    private static void same(String call, CandleIsADebt x, int[] before) {
        int[] after = told(x);
        for (int i = 0; i < before.length; i++) due.is(call + " taken back, " + i, after[i], before[i]);
    }

    /** "(each that is not refused counts, also if all stays as it was)": and one that is refused does not. */
    static void whatCountsAsAChange() {
        CandleIsADebt x = Due.village("h0000; w48480");
        x.goals(0, 48);
        due.is("the goal that he had", x.count(7), 1);
        x.evenings(1);
        due.is("an evening in which nothing is", x.count(7), 2);
        x.lights(1);
        x.goals(0, 49);
        x.visits(0, 0);
        x.trades(0, 0, 0);
        x.evenings(0);
        x.evenings(61);
        due.is("refused", x.count(7), 2);
        x.prices(60);
        x.shut(60);
        x.lots(20, 1, 1);
        x.judge();
        x.count(9);
        due.is("told", x.count(7), 2);
    }

    /** "(house(), walker(), a VILLAGE without FAULT, restore(), where they are not refused, leave none)". */
    static void whatLeavesNone() {
        CandleIsADebt x = Due.village("h0000; w00000");
        x.lights(0);
        due.is("restore() where there is none", x.restore(), -3);
        x.house(6, 0, 0);
        x.house(0, -1, 0);
        x.house(0, 10, 0);
        x.house(0, 0, 49);
        x.walker(49, 0, 0);
        x.walker(0, 0, -1);
        x.walker(0, 0, 3);
        Due.tell(x, "");
        Due.tell(x, "l0");
        Due.tell(x, "l9;");
        due.is("refused", x.count(7), 1);
        x.image();
        due.is("an image", x.count(7), 1);
        x.house(0, 0, 0);
        due.is("house()", x.back(), -3);
        x.lights(0);
        x.walker(0, 0, 0);
        due.is("walker()", x.back(), -3);
        x.lights(0);
        Due.tell(x, "l0;");
        due.is("a village", x.back(), -3);
        x.lights(0);
        x.restore();
        due.is("restore()", x.back(), -3);
        due.is("dark, as it was then", x.houseOf(0, 3), 0);
    }

    /** "OLDEST: AGE of what is OWED longest (0 none); by whom (the first; -9)": none is told apart from an age of 0. */
    static void oldestOfNoneAndOf0() {
        CandleIsADebt first = Due.village("h0000; w48480; o00; e07");
        due.is("the first walker's 7", first.oldest(0), 7);
        due.is("the first walker", first.oldest(1), 0);
        CandleIsADebt x = Due.village("h0000; h0000; w48480; w48480");
        due.is("none", x.oldest(0), 0);
        due.is("by none", x.oldest(1), -9);
        Due.tell(x, "o10;");
        due.is("0", x.oldest(0), 0);
        due.is("by the second", x.oldest(1), 1);
        Due.tell(x, "o01;");
        due.is("by the first of two", x.oldest(1), 0);
        x.trades(1, 0, 1);
        Due.tell(x, "e60;e38;o00;");
        due.is("98", x.oldest(0), 98);
        due.is("by the second again", x.oldest(1), 1);
        Due.tell(x, "e60;");
        due.is("99", x.oldest(0), 99);
        due.is("by the second still", x.oldest(1), 1);
        Due.tell(x, "e60;");
        due.is("by the first of two of 99", x.oldest(1), 0);
        due.is("what -1", x.oldest(-1), -2);
        due.is("what 4", x.oldest(4), -2);
    }

    /** "LANE: twos of HOUSES LIT within 2 STEPS": 0, 2 and 3 steps apart; "DARK: HOUSES (bits)": all of seven. */
    static void laneAndDark() {
        CandleIsADebt x = Due.village("h0024; h0024; h0026; h0027; h0040; h0006; h0007");
        due.is("0 and 1 and 2; 2 and 3; 2 and 4; not 3 and 4, nor 5 and 6", x.oldest(2), 3 + 1 + 1);
        for (int h = 0; h < 7; h++) {
            due.is("dark", x.oldest(3), (1 << h) - 1);
            x.lights(h);
        }
        due.is("all dark", x.oldest(3), 0b1111111);
        due.is("no two", x.oldest(2), 0);
        x.lights(6);
        due.is("but the last", x.oldest(3), 0b0111111);
        due.is("no two of one", x.oldest(2), 0);
        CandleIsADebt all = Due.village("h0000; h0000; h0000; h0000; h0000; h0000; h0000");
        due.is("all twos of seven", all.oldest(2), 21);
    }

    /** "MEAN PRICE of WALKERS: a fraction (0 over 1 of none)", "in lowest terms; 0 as 0 over 1". */
    static void meanInLowestTerms() {
        mean("of none", new CandleIsADebt(), 0, 1);
        mean("of houses alone", Due.village("h0000"), 0, 1);
        String six = "h0000; h2000; h2200; h2400; w48480; w48480; w48480; w48480; w48480; w48480; ";
        mean("0 of six", Due.village(six.trim()), 0, 1);
        mean("5 of six", Due.village(six + "o00"), 5, 6);
        mean("2 of six", Due.village(six + "o01"), 1, 3);
        mean("3 of six", Due.village(six + "o02"), 1, 2);
        mean("4 of six", Due.village(six + "o03"), 2, 3);
        mean("6 of six", Due.village(six + "o01; o13"), 1, 1);
        mean("9 of six", Due.village(six + "o00; o13"), 3, 2);
        mean("12 of six", Due.village(six + "o00; o10; o51"), 2, 1);
        mean("5 of one", Due.village("h0000; w48480; o00"), 5, 1);
        mean("5 of five", Due.village("h0000; w48480; w48480; w48480; w48480; w48480; o40"), 1, 1);
        CandleIsADebt x = new CandleIsADebt();
        due.is("part 2", x.mean(2), FAR_LONG + 2);
        due.is("part -1", x.mean(-1), FAR_LONG + 2);
        due.is("refused -2", x.count(12), 2);
    }

    private static void mean(String what, CandleIsADebt x, long above, long below) {
        due.is(what + ": above", x.mean(0), above);
        due.is(what + ": below", x.mean(1), below);
    }

    /** "FORGIVEN: by how much less all PRICES are, were all AGES 0": nothing owed, ages of 0, one of each house, 99. */
    static void forgivenAges() {
        CandleIsADebt x = Due.village("h4000; h5000; h0000; w48480; w48480");
        due.is("nothing owed", x.forgiven(), 0);
        Due.tell(x, "o00;");
        due.is("of age 0", x.forgiven(), 0);
        x.evenings(1);
        due.is("the first house's 1", x.forgiven(), 1);
        Due.tell(x, "o11;o12;");
        x.evenings(1);
        due.is("2 and a train's 2", x.forgiven(), 4);
        x.evenings(60);
        x.evenings(60);
        due.is("99 and 198", x.forgiven(), 297);
    }

    /** "NEAREST: the HOUSE OWED by one nearest to him, of several the least; -9". */
    static void nearestOfSeveral() {
        CandleIsADebt x = Due.village("h0048; h0027; h0021; h0024; w24240; w00000");
        due.is("nothing owed", x.nearest(0), -9);
        Due.tell(x, "o00;");
        due.is("6 off", x.nearest(0), 0);
        Due.tell(x, "o02;");
        due.is("3 off", x.nearest(0), 2);
        Due.tell(x, "o01;");
        due.is("of two 3 off the least", x.nearest(0), 1);
        Due.tell(x, "o03;o10;");
        due.is("where he is", x.nearest(0), 3);
        due.is("12 off", x.nearest(1), 0);
        due.is("a third walker", x.nearest(2), -1);
    }

    /** "ALL SEEN: CELLS from which a HOUSE is seen with whole SIGHT (how many)": corners, edges, all; "(dark ones, too)". */
    static void allSeenAtTheEdges() {
        CandleIsADebt x = Due.village("h2000; h0000; h0006; h0042; h0048; h0003; h0024");
        int[] cells = {1, 6, 6, 6, 6, 9, 13};
        for (int h = 0; h < 7; h++) due.is("house " + h, x.allSeen(h), cells[h]);
        x.lights(6);
        due.is("dark", x.allSeen(6), 13);
        due.is("an eighth", x.allSeen(7), -1);
        CandleIsADebt y = Due.village("h5900; h5924; h4006; h3948; h1048");
        int[] more = {39, 49, 3, 28, 10};
        for (int h = 0; h < 5; h++) due.is("a farther one, " + h, y.allSeen(h), more[h]);
    }

    /** "GAPS: the least n (0 .. 60) behind which nobody OWES one thing more in the next EVENING". */
    static void gapsFrom0On() {
        due.is("nobody", new CandleIsADebt().gaps(), 0);
        due.is("the blind", Due.village("h0000; w00000").gaps(), 0);
        due.is("one thing at once", Due.village("h0000; w00002").gaps(), 1);
        due.is("one thing later", Due.village("h2002; w00022").gaps(), 0);
        CandleIsADebt x = Due.village("h2000; h2001; h2002; h2003; h2004; h2005; h2006; w00062; w06002");
        due.is("one by one in six, by both", x.gaps(), 6);
        x.lights(3);
        due.is("neither in the third", x.gaps(), 2);
        x.lights(3);
        x.lights(5);
        due.is("one in the first, one in the fifth", x.gaps(), 6);
        x.lights(1);
        due.is("neither in the first", x.gaps(), 0);
        CandleIsADebt owed = Due.village("h2048; h2001; w00062; o00");
        due.is("what is owed is no more; what is not is", owed.gaps(), 1);
        CandleIsADebt far = Due.village("h2001; h2008; h2009; h2017; h2024; h2031; w00062; w07092; w01012; w10312");
        due.is("by some in each of three", far.gaps(), 3);
    }

    /** "BLIND: WALKERS (bits) that SEE nothing now": without houses all, in reach none, in the dark all. */
    static void blindWithoutLights() {
        CandleIsADebt x = Due.village("w24242; w24241; w24240; w22222; w22221; w21212");
        due.is("without houses", x.blind(), 0b111111);
        x.house(0, 0, 24);
        due.is("the blind, half 2 off, whole 3 off", x.blind(), 0b110100);
        x.lights(0);
        due.is("in the dark", x.blind(), 0b111111);
        due.is("nobody", new CandleIsADebt().blind(), 0);
    }

    /** "MOVED: .. were his GOAL another CELL (may be below 0)", "-1 either; -4; -6 60", "1000000000 less them". */
    static void movedFrom0To60() {
        CandleIsADebt x = Due.village("h5006; h2042; w00062; w00000");
        due.is("behind 0", x.moved(0, 42, 0), 0);
        due.is("behind 1: none sees yet", x.moved(0, 42, 1), 0);
        due.is("behind 2: the train is 4 off", x.moved(0, 42, 2), -25);
        due.is("behind 6: 25 and 8 less, a curtain more", x.moved(0, 42, 6), 2 - 33);
        due.is("behind 60", x.moved(0, 42, 60), 2 - 25 - 116);
        due.is("the goal that he has", x.moved(0, 6, 60), 0);
        due.is("where he is", x.moved(0, 0, 60), -25 - 116);
        due.is("the blind one", x.moved(1, 48, 60), 0);
        due.is("nobody", x.moved(2, 0, 61), 1000000001);
        due.is("no cell", x.moved(0, 49, -1), 1000000001);
        due.is("-1", x.moved(0, 0, -1), 1000000004);
        due.is("61", x.moved(0, 0, 61), 1000000006);
        due.is("refused -1", x.count(11), 2);
        due.is("refused -4", x.count(14), 1);
        due.is("refused -6", x.count(16), 1);
        due.is("his goal", x.walkerOf(0, 1), 6);
    }

    /** "MOVED .. behind n EVENINGS": from what is now, whatever was tried before. */
    static void movedFromNow() {
        CandleIsADebt x = Due.village("h2000; h2006; w03062");
        x.evenings(1);
        x.goals(0, 0);
        due.is("from 4: to 6 instead of 0", x.moved(0, 6, 2), 2);
        due.is("by 4 both are seen", x.moved(0, 6, 4), 0);
        Due.tell(x, "e09;l0;l1;l2;");
        due.is("a village with a fault was tried", x.moved(0, 6, 2), 2);
        x.lights(1);
        due.is("the one is dark", x.moved(0, 6, 4), -2);
        x.house(2, 0, 5);
        due.is("there is another one", x.moved(0, 6, 4), 0);
    }

    /** "STREET: PRICES by a row of the map", "-1 a row 0 .. 6": the first and the last cell of each row. */
    static void streetsFromEndToEnd() {
        CandleIsADebt x = Due.village("h0000; h0106; h0207; h0341; h0442; h0548; h5024; w24240; w24240");
        Due.tell(x, "o00;o01;o02;o03;o04;o05;o06;o16;e02;o10;");
        int[] minutes = {5 + 5 + 6, 7, 0, 29 + 29, 0, 8, 9 + 10};
        for (int row = 0; row < 7; row++) due.is("row " + row, x.street(row), minutes[row]);
        due.is("row -1", x.street(-1), -1);
        due.is("row 7", x.street(7), -1);
        due.is("all rows are all prices", x.count(4), 108);
    }

    /** "THE IMAGE is taken: EVENING", "-3 there is none": it is of what was when it was taken last, and stays. */
    static void imageTakenLast() {
        CandleIsADebt x = new CandleIsADebt();
        due.is("none", x.restore(), -3);
        due.is("of a new object", x.image(), 0);
        Due.tell(x, "h0000;w00002;e09;");
        due.is("of evening 9", x.image(), 9);
        x.evenings(60);
        due.is("restored", x.restore(), 9);
        due.is("one house", x.count(0), 1);
        x.house(0, 0, 0);
        due.is("restored again", x.restore(), 9);
        due.is("one house still", x.count(0), 1);
        due.is("refused -3", x.count(13), 1);
        for (int i = 0; i < 16; i++) x.evenings(60);
        x.evenings(30);
        due.is("of evening 999", x.image(), 999);
        due.is("restored", x.restore(), 999);
        due.is("an evening more", x.evenings(1), -6);
    }

    /** "all that there is of I": each of it comes back. */
    static void imageOfAllOfI() {
        CandleIsADebt x = Due.village("h3524; h4000; l1; w24061; w06002; o01; o10; e05");
        due.is("image", x.image(), 5);
        int prices = x.count(4);
        x.lights(0);
        x.lights(1);
        x.goals(1, 48);
        x.trades(1, 0, 1);
        Due.tell(x, "h0024;w00002;o00;e60;");
        due.is("restored", x.restore(), 5);
        int[] got = allOfI(x);
        int[] want = {2, 2, 5, 3, 5, 24, 1, 0, 4, 0, 5, 6, 1, 1, 0};
        for (int i = 0; i < want.length; i++) due.is("restored, " + i, got[i], want[i]);
        due.is("age", x.age(0, 1), 5);
        due.is("all prices", x.count(4), prices);
        due.is("no third walker", x.walkerOf(2, 0), -1);
        due.is("no third house", x.houseOf(2, 0), -1);
    }

    private static int[] allOfI(CandleIsADebt x) {
        return new int[] {x.count(0), x.count(1), x.count(2), x.houseOf(0, 0), x.houseOf(0, 1), x.houseOf(0, 2),
            x.houseOf(0, 3), x.houseOf(1, 3), x.houseOf(1, 0), x.houseOf(1, 2), x.walkerOf(0, 0), x.walkerOf(0, 1),
            x.walkerOf(0, 2), x.walkerOf(1, 0), x.walkerOf(1, 1)};
    }

    /** "but it, letters, the ROW, REFUSALS": these stay as they are when the image is restored. */
    static void whatIsNotInTheImage() {
        CandleIsADebt x = Due.village("h0000; w00000; o00");
        x.feed('l');
        x.row(7);
        x.lights(9);
        x.image();
        x.feed('0');
        x.row(8);
        x.lights(9);
        x.lights(0);
        x.restore();
        due.is("letters", x.count(5), 2);
        due.is("the row", x.count(6), 2);
        due.is("refusals", x.count(11), 2);
        due.is("what can be taken back", x.count(7), 0);
        due.is("lit", x.houseOf(0, 3), 1);
        x.feed(';');
        due.is("the letters are those that came", x.village(), 1);
        due.is("dark", x.houseOf(0, 3), 0);
        due.is("the row is the one that came", x.judge(), 0);
        due.is("restored again", x.restore(), 0);
        due.is("lit again", x.houseOf(0, 3), 1);
    }

    /** "nothing changes but how many there were": letters, row, changes and image come through refused calls as they are. */
    static void refusedCallsLeaveAll() {
        CandleIsADebt x = Due.village("h2000; h2048; w00480; w48480; o10");
        x.image();
        x.goals(0, 6);
        String text = "l1;e01;";
        int refused = 0;
        for (int i = 0; i < text.length(); i++) {
            x.feed(text.charAt(i));
            x.feed(-1);
            x.feed(256);
            x.row(i < 2 ? 1 - i : -1);
            x.row(100);
            x.restore();
            x.goals(0, 48);
            x.goals(0, 6);
            x.goals(2, 6);
            x.visits(0, 0);
            x.trades(1, 0, 1);
            x.evenings(0);
            x.house(0, 0, 49);
            x.walker(0, 0, 3);
            x.way(0, 49, 0);
            x.whatKind(0, 0, 2);
            x.lots(21, 0, 0);
            refused += 13;
        }
        int counted = 0;
        for (int what = 11; what <= 16; what++) counted += x.count(what);
        due.is("refused, with the rows below 0", counted, refused - 7 + 5);
        due.is("the row", x.count(6), 2);
        due.is("judged", x.judge(), -9);
        due.is("taken back", x.back(), 1);
        due.is("goal", x.walkerOf(0, 1), 48);
        due.is("the village", x.village(), 2);
        due.is("dark", x.oldest(3), 0b10);
        due.is("evening", x.count(2), 1);
        due.is("image", x.restore(), 0);
    }

    /** "-1 .. -6" of REFUSALS, "-9 for another what": each number's own count, and 0 of -5. */
    static void eachRefusalsOwnCount() {
        CandleIsADebt x = Due.village("h0000; w00000");
        x.lights(1);
        for (int i = 0; i < 2; i++) x.richest(2);
        for (int i = 0; i < 3; i++) x.visits(0, 0);
        for (int i = 0; i < 4; i++) x.shut(-1);
        for (int i = 0; i < 6; i++) x.shut(61);
        int[] counts = {1, 2, 3, 4, 0, 6};
        for (int i = 0; i < 6; i++) due.is("count(" + (11 + i) + ")", x.count(11 + i), counts[i]);
        int[] others = {-1, 8, 9, 10, 17, 18, 99, Integer.MIN_VALUE, Integer.MAX_VALUE};
        for (int what : others) due.is("count(" + what + ")", x.count(what), -9);
        due.is("which is no refusal", x.count(12), 2);
        x.clear(0, 0);
        x.moved(0, 0, 61);
        x.mist(0, 0, 0, 1, 0);
        x.mean(2);
        int[] then = {2, 3, 3, 5, 0, 7};
        for (int i = 0; i < 6; i++) due.is("with those told far off, count(" + (11 + i) + ")", x.count(11 + i), then[i]);
    }

    /** "An object is used for at most 512 calls": as many refusals are counted, and as many evenings go by. */
    static void fiveHundredAndTwelveCalls() {
        CandleIsADebt x = new CandleIsADebt();
        for (int i = 0; i < 511; i++) x.back();
        due.is("refused", x.count(13), 511);
        CandleIsADebt y = new CandleIsADebt();
        y.walker(0, 48, 2);
        for (int i = 0; i < 510; i++) y.evenings(1);
        due.is("evening", y.count(2), 510);
    }

    /** "An object": what one does is nothing to another one. */
    static void objectsApart() {
        CandleIsADebt x = Due.village("h0000; w00002");
        CandleIsADebt y = new CandleIsADebt();
        x.image();
        x.feed('l');
        x.row(1);
        x.lights(0);
        x.lights(1);
        for (int what = 0; what <= 7; what++) due.is("count(" + what + ") of the other", y.count(what), 0);
        due.is("refusals of the other", y.count(11), 0);
        due.is("image of the other", y.restore(), -3);
    }
}
