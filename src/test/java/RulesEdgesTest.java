/** The terms of part I, and promises 1 and 4 to 13: a test for each sentence that names an edge, which stands above it. */
public final class RulesEdgesTest {
    private static final Due due = new Due();

    public static void main(String[] args) throws ReflectiveOperationException {
        Due.all(RulesEdgesTest.class);
        due.end();
    }

    /** "A new object: No HOUSES, no WALKERS", and so the 0th of each is none. */
    static void nobodyAtFirst() {
        CandleIsADebt x = new CandleIsADebt();
        due.is("house 0", x.houseOf(0, 0), -1);
        due.is("walker 0", x.walkerOf(0, 0), -1);
        due.is("lights", x.lights(0), -1);
        due.is("goals", x.goals(0, 0), -1);
        due.is("visits", x.visits(0, 0), -1);
        due.is("trades", x.trades(0, 0, 1), -1);
        due.is("age", x.age(0, 0), -1);
        due.is("each counted", x.count(11), 7);
        due.is("an evening without anybody", x.evenings(1), 0);
        due.is("it has gone by", x.count(2), 1);
    }

    /** "CELLS 0 .. 48": the first and the last are cells, their outer neighbours are none. */
    static void cells0To48() {
        CandleIsADebt x = new CandleIsADebt();
        due.is("house in 0", x.house(0, 0, 0), 0);
        due.is("house in 48", x.house(0, 0, 48), 1);
        due.is("house in -1", x.house(0, 0, -1), -1);
        due.is("house in 49", x.house(0, 0, 49), -1);
        due.is("walker at 0, goal 48", x.walker(0, 48, 2), 0);
        due.is("walker at 48, goal 0", x.walker(48, 0, 2), 1);
        due.is("walker at -1", x.walker(-1, 0, 2), -1);
        due.is("walker at 49", x.walker(49, 0, 2), -1);
        due.is("walker's goal -1", x.walker(0, -1, 2), -1);
        due.is("walker's goal 49", x.walker(0, 49, 2), -1);
        due.is("goal to 0", x.goals(0, 0), 48);
        due.is("goal to 48", x.goals(0, 48), 0);
        due.is("goal to -1", x.goals(0, -1), -1);
        due.is("goal to 49", x.goals(0, 49), -1);
        due.is("cell of the second house", x.houseOf(1, 2), 48);
        due.is("houses", x.count(0), 2);
        due.is("walkers", x.count(1), 2);
    }

    /** "STEPS between two: rows and columns apart, together": the end of a row is not next to the start of the next one. */
    static void rowsDoNotRunOn() {
        CandleIsADebt x = Due.village("h0106; h0107; w06072; w07062; w00482; w48002");
        due.is("6 sees 6 alone", x.walkerOf(0, 4), 0b01);
        due.is("7 sees 7 alone", x.walkerOf(1, 4), 0b10);
        due.is("6 to 7", x.home(0), 7);
        due.is("7 to 6", x.home(1), 7);
        due.is("0 to 48", x.home(2), 12);
        due.is("48 to 0", x.home(3), 12);
    }

    /** "HOUSES 0 .. as they come (7 at most)": the seventh is as good as the first, an eighth is refused. */
    static void sevenHouses() {
        CandleIsADebt x = Due.village("h2000; h2000; h2000; h2000; h2000; h2000; w48480; w48480; w48480; w48480; w48480");
        due.is("the seventh", x.house(5, 9, 48), 6);
        due.is("the sixth walker", x.walker(48, 48, 2), 5);
        due.is("an eighth", x.house(0, 0, 0), -6);
        due.is("kind", x.houseOf(6, 0), 5);
        due.is("seen", x.walkerOf(5, 4), 0b1000000);
        due.is("seen by", x.houseOf(6, 7), 0b100000);
        due.is("owed", x.evenings(1), 1);
        due.is("owes", x.walkerOf(5, 3), 0b1000000);
        due.is("owed by", x.houseOf(6, 6), 0b100000);
        due.is("age", x.age(5, 6), 0);
        due.is("the eighth is none", x.age(5, 7), -1);
        due.is("traded", x.trades(6, 5, 0), 0);
        due.is("visited", x.visits(0, 6), 34);
        due.is("dark", x.lights(6), 0);
        due.is("house 7", x.lights(7), -1);
    }

    /** "WALKERS 0 .. as they come (6 at most)". */
    static void sixWalkers() {
        CandleIsADebt x = new CandleIsADebt();
        for (int w = 0; w < 6; w++) due.is("walker " + w, x.walker(w, 48 - w, 2), w);
        due.is("a seventh", x.walker(0, 0, 0), -6);
        due.is("goal of the sixth", x.goals(5, 0), 43);
        due.is("goal of a seventh", x.goals(6, 0), -1);
        due.is("walkers", x.count(1), 6);
    }

    /** "a FIGURE (0 .. 9)", "REACH", "FIGURE over 2, cut": of each kind, by its figure. */
    static void reachOfEachFigure() {
        int[][] reach = {{2, 2, 2, 2, 2, 2, 2, 2, 2, 2}, {3, 3, 3, 3, 3, 3, 3, 3, 3, 3}, {0, 0, 0, 0, 0, 0, 0, 0, 0, 0},
            {2, 2, 3, 3, 4, 4, 5, 5, 6, 6}, {1, 1, 1, 1, 1, 1, 1, 1, 1, 1}, {4, 4, 5, 5, 6, 6, 7, 7, 8, 8}};
        for (int kind = 0; kind < 6; kind++) {
            for (int figure = 0; figure <= 9; figure++) {
                CandleIsADebt x = new CandleIsADebt();
                x.house(kind, figure, 0);
                due.is("reach of kind " + kind + ", figure " + figure, x.houseOf(0, 4), reach[kind][figure]);
            }
        }
    }

    /** "MINUTES (a visit is, AGE a)", "CURTAIN half of a CANDLE's, cut": of each kind by its figure, of age 0, 1 and 99. */
    static void minutesOfEachFigureAndAge() {
        int[][] young = {{5, 6, 7, 8, 9, 10, 11, 12, 13, 14}, {10, 12, 14, 16, 18, 20, 22, 24, 26, 28},
            {2, 3, 3, 4, 4, 5, 5, 6, 6, 7}, {25, 26, 27, 28, 29, 30, 31, 32, 33, 34}, {2, 3, 3, 4, 4, 5, 5, 6, 6, 7},
            {25, 26, 27, 28, 29, 30, 31, 32, 33, 34}};
        int[] more = {0, 0, 0, 0, 1, 2};
        for (int kind = 0; kind < 6; kind++) {
            for (int figure = 0; figure <= 9; figure++) {
                String house = "kind " + kind + ", figure " + figure;
                CandleIsADebt x = Due.village("h" + kind + figure + "48; w48480; o00");
                due.is(house, x.houseOf(0, 5), young[kind][figure]);
                due.is(house + ", age 0", x.walkerOf(0, 5), young[kind][figure]);
                x.evenings(1);
                due.is(house + ", age 1", x.walkerOf(0, 5), young[kind][figure] + more[kind]);
                x.evenings(60);
                x.evenings(60);
                due.is(house + ", age 99", x.walkerOf(0, 5), young[kind][figure] + 99 * more[kind]);
                due.is(house + " of age 0 still", x.houseOf(0, 5), young[kind][figure]);
                due.is(house + ", visit", x.visits(0, 0), young[kind][figure] + 99 * more[kind]);
            }
        }
    }

    /** "SEES: SIGHT 2 within REACH; 1 within half of it, cut; 0 never": by the steps that he is off. */
    static void seesUpToTheEdge() {
        int[] far = {0, 1, 2, 3, 4, 5, 6, 13, 20, 27, 34, 41, 48};
        String[] houses = {"h0000", "h1000", "h2000", "h3000", "h3100", "h3200", "h3500", "h3600", "h3900", "h4000",
            "h5000", "h5300", "h5500", "h5700", "h5900"};
        int[] whole = {2, 3, 0, 2, 2, 3, 4, 5, 6, 1, 4, 5, 6, 7, 8};
        int[] half = {1, 1, 0, 1, 1, 1, 2, 2, 3, 0, 2, 2, 3, 3, 4};
        for (int i = 0; i < houses.length; i++) {
            for (int off = 0; off <= 12; off++) {
                String at = (far[off] < 10 ? "0" : "") + far[off];
                CandleIsADebt x = Due.village(houses[i] + "; w" + at + at + "0; w" + at + at + "1; w" + at + at + "2");
                int seers = (off <= half[i] ? 2 : 0) + (off <= whole[i] ? 4 : 0);
                due.is(houses[i] + " from " + off + " off", x.houseOf(0, 7), seers);
                x.evenings(1);
                due.is(houses[i] + " owed from " + off + " off", x.houseOf(0, 6), seers);
            }
        }
    }

    /** "SEES: .. what is dark is not seen": by nobody, in the same cell either; lit again, it is. */
    static void darkIsNotSeen() {
        CandleIsADebt x = Due.village("h5900; l0; w00002; w00001");
        due.is("seen by", x.houseOf(0, 7), 0);
        due.is("owed", x.evenings(60), 0);
        x.lights(0);
        due.is("lit: seen by", x.houseOf(0, 7), 3);
        due.is("lit: owed", x.evenings(1), 2);
        x.lights(0);
        due.is("what is owed stays owed in the dark, and grows", x.evenings(4), 2);
        due.is("age", x.age(0, 0), 4);
    }

    /** "a FIGURE (0 .. 9), a CELL, LIT (at first) or dark". */
    static void litAtFirst() {
        CandleIsADebt x = new CandleIsADebt();
        x.image();
        x.house(0, 0, 0);
        due.is("the first", x.houseOf(0, 3), 1);
        x.lights(0);
        x.house(0, 0, 0);
        due.is("beside a dark one", x.houseOf(1, 3), 1);
        x.restore();
        x.house(0, 0, 0);
        due.is("where a dark one had been", x.houseOf(0, 3), 1);
    }

    /** "Of each WALKER and HOUSE: OWES or not (not at first)". */
    static void owesNothingAtFirst() {
        CandleIsADebt x = new CandleIsADebt();
        x.image();
        Due.tell(x, "h0000;w00002;o00;e09;");
        x.house(0, 0, 0);
        due.is("a new house", x.age(0, 1), -9);
        x.walker(0, 0, 2);
        due.is("a new walker, who sees it", x.age(1, 0), -9);
        x.restore();
        Due.tell(x, "h0000;w00002;");
        due.is("where one had owed", x.age(0, 0), -9);
        due.is("nothing is owed", x.count(3), 0);
    }

    /** "SIGHT (0 blind, 1 half, 2 whole)": below and above are refused, and the goal is looked at before it. */
    static void sights0To2() {
        CandleIsADebt x = new CandleIsADebt();
        for (int sight = 0; sight <= 2; sight++) {
            due.is("sight " + sight, x.walker(0, 0, sight), sight);
            due.is("it is", x.walkerOf(sight, 2), sight);
        }
        due.is("sight -1", x.walker(0, 0, -1), -4);
        due.is("sight 3", x.walker(0, 0, 3), -6);
        due.is("no such goal and sight 3", x.walker(0, 49, 3), -1);
        due.is("no such place and sight -1", x.walker(49, 0, -1), -1);
        due.is("walkers", x.count(1), 3);
    }

    /** "-2; -4; -6 (9; 7 there are); -1 the CELL": of several the first is told. */
    static void houseRefusedInOrder() {
        CandleIsADebt x = new CandleIsADebt();
        due.is("kind 5, figure 9", x.house(5, 9, 0), 0);
        due.is("kind 0, figure 0", x.house(0, 0, 0), 1);
        due.is("kind -1", x.house(-1, -1, -1), -2);
        due.is("kind 6", x.house(6, 10, 49), -2);
        due.is("figure -1", x.house(0, -1, -1), -4);
        due.is("figure 10", x.house(0, 10, 49), -6);
        due.is("the cell", x.house(0, 9, 49), -1);
        for (int i = 2; i < 7; i++) due.is("house " + i, x.house(0, 0, 0), i);
        due.is("kind 6, no room", x.house(6, 0, 0), -2);
        due.is("figure -1, no room", x.house(0, -1, 0), -4);
        due.is("no room, nor such a cell", x.house(0, 0, 49), -6);
        due.is("refused -1", x.count(11), 1);
        due.is("refused -2", x.count(12), 3);
        due.is("refused -4", x.count(14), 2);
        due.is("refused -6", x.count(16), 2);
    }

    /** "EVENING (0 .. 999; 0 at first)", "-4 1; -6 (60; EVENING above 999)". */
    static void evenings0To999() {
        CandleIsADebt x = Due.village("h4000; w48480; o00");
        due.is("at first", x.count(2), 0);
        due.is("0", x.evenings(0), -4);
        due.is("-1", x.evenings(-1), -4);
        due.is("61", x.evenings(61), -6);
        due.is("1", x.evenings(1), 1);
        due.is("60", x.evenings(60), 1);
        for (int i = 0; i < 15; i++) x.evenings(60);
        due.is("evening", x.count(2), 961);
        due.is("39 more", x.evenings(39), -6);
        due.is("38 more", x.evenings(38), 1);
        due.is("evening 999", x.count(2), 999);
        due.is("one more", x.evenings(1), -6);
        due.is("60 more", x.evenings(60), -6);
        due.is("0 more", x.evenings(0), -4);
        due.is("evening 999 still", x.count(2), 999);
        due.is("taken back", x.back(), 7);
        due.is("evening 961", x.count(2), 961);
        due.is("refused -4", x.count(14), 3);
        due.is("refused -6", x.count(16), 4);
    }

    /** "AGE of all that is OWED is 1 more (99 at most)". */
    static void age99AtMost() {
        CandleIsADebt x = Due.village("h4000; h5000; w48480; o00; e60; e38; o01; e01");
        due.is("99", x.age(0, 0), 99);
        due.is("1", x.age(0, 1), 1);
        x.evenings(1);
        due.is("99 still", x.age(0, 0), 99);
        due.is("2", x.age(0, 1), 2);
        x.evenings(60);
        due.is("99 again", x.age(0, 0), 99);
        due.is("62", x.age(0, 1), 62);
        x.evenings(60);
        due.is("both", x.age(0, 1), 99);
        due.is("price", x.walkerOf(0, 5), 2 + 99 + 25 + 198);
    }

    /** "each goes 1 STEP towards his GOAL (rows first, then columns; there he stays)": to each of the four corners. */
    static void rowsBeforeColumns() {
        CandleIsADebt x = Due.village("w24000; w24060; w24420; w24480");
        int[][] places = {{17, 17, 31, 31}, {10, 10, 38, 38}, {3, 3, 45, 45}, {2, 4, 44, 46}, {1, 5, 43, 47}, {0, 6, 42, 48}};
        for (int n = 1; n <= 6; n++) {
            x.evenings(1);
            for (int w = 0; w < 4; w++) due.is("walker " + w + " behind " + n, x.walkerOf(w, 0), places[n - 1][w]);
        }
        x.evenings(60);
        for (int w = 0; w < 4; w++) due.is("there he stays, " + w, x.walkerOf(w, 0), places[5][w]);
    }

    /** "what he SEES then": where he has come to, not where he has been, nor when he is set there. */
    static void seesWhereHeComes() {
        CandleIsADebt x = Due.village("h2000; h2001; w00012");
        due.is("sees the curtain where he is", x.walkerOf(0, 4), 0b01);
        due.is("and owes the one where he comes", x.evenings(1), 1);
        due.is("which is", x.walkerOf(0, 3), 0b10);
        CandleIsADebt y = Due.village("h2003; w00062");
        due.is("as he passes it in one call", y.evenings(60), 1);
        due.is("age by then", y.age(0, 0), 57);
    }

    /** "n EVENINGS go by: how much is OWED (how many times)": by then, not in the next evening; a house by two is two. */
    static void owedBehindEvenings() {
        CandleIsADebt x = Due.village("h2001; h2002; h2006; w00062; w00062");
        due.is("behind 1", x.evenings(1), 2);
        due.is("behind 2", x.evenings(1), 4);
        due.is("behind 5", x.evenings(3), 4);
        due.is("behind 6", x.evenings(1), 6);
        due.is("behind 66", x.evenings(60), 6);
    }

    /** "and does not OWE, he OWES (AGE 0)": the ages grow first, so a new debt is of age 0; an old one stays. */
    static void newDebtsAreOfAge0() {
        CandleIsADebt x = Due.village("h0000; w00002; w00002; o00; e03");
        due.is("what he owes he does not owe anew", x.age(0, 0), 3);
        due.is("seen in the first of three", x.age(1, 0), 2);
        x.visits(0, 0);
        due.is("visited", x.age(0, 0), -9);
        x.evenings(1);
        due.is("and seen anew", x.age(0, 0), 0);
        due.is("the other's", x.age(1, 0), 3);
    }

    /** "PRICE of one who OWES: MINUTES of all he OWES together": nothing is 0, all is all of them. */
    static void priceOfNothingAndOfAll() {
        CandleIsADebt x = Due.village("h0000; h1000; h2000; h3000; h4000; h5000; h5900; w48480; w48480");
        Due.tell(x, "o00;o01;o02;o03;o04;o05;o06;e03;");
        due.is("of all", x.walkerOf(0, 5), 5 + 10 + 2 + 25 + (2 + 3) + (25 + 6) + (34 + 6));
        due.is("of nothing", x.walkerOf(1, 5), 0);
        due.is("all", x.walkerOf(0, 3), 0b1111111);
    }

    /** "-1 either; -3 he OWES it not, he is elsewhere": each of the two alone, and -1 before both. */
    static void visitsWhereHeStands() {
        CandleIsADebt x = Due.village("h5024; h5024; w24240; w23230; o00; o10");
        due.is("there, owes it not", x.visits(0, 1), -3);
        due.is("elsewhere, owes it", x.visits(1, 0), -3);
        due.is("elsewhere, owes it not", x.visits(1, 1), -3);
        due.is("no such walker", x.visits(2, 0), -1);
        due.is("no such house", x.visits(0, 2), -1);
        due.is("there, owes it", x.visits(0, 0), 25);
        due.is("once more", x.visits(0, 0), -3);
        due.is("refused -3", x.count(13), 4);
        due.is("one thing can be taken back", x.count(7), 1);
    }

    /** "-1 any (one twice, too); -3 the one OWES it not, the other does": and AGE stays, 0 or 99. */
    static void tradesToOneWhoOwesItNot() {
        CandleIsADebt x = Due.village("h4000; h4000; w48480; w48480; w48480; o00; o10; e60; e60; o01");
        due.is("both owe it", x.trades(0, 0, 1), -3);
        due.is("neither", x.trades(1, 1, 2), -3);
        due.is("the other owes it alone", x.trades(1, 1, 0), -3);
        due.is("one twice, who owes it", x.trades(1, 0, 0), -1);
        due.is("one twice, who owes it not", x.trades(1, 1, 1), -1);
        due.is("no such house, one twice", x.trades(2, 1, 1), -1);
        due.is("no such one", x.trades(0, 3, 1), -1);
        due.is("no such other", x.trades(0, 0, 3), -1);
        due.is("of age 0", x.trades(1, 0, 2), 0);
        due.is("it is", x.age(2, 1), 0);
        due.is("of age 99", x.trades(0, 0, 2), 99);
        due.is("it is", x.age(2, 0), 99);
        due.is("back to him", x.trades(0, 2, 0), 99);
        due.is("refused -1", x.count(11), 5);
        due.is("refused -3", x.count(13), 3);
    }

    /** "GOAL becomes a CELL: what it was": from the next evening on, and the one that it was, too. */
    static void goalsFromNowOn() {
        CandleIsADebt x = Due.village("w24062");
        due.is("what it was", x.goals(0, 6), 6);
        due.is("where he is", x.goals(0, 24), 6);
        x.evenings(1);
        due.is("there he stays", x.walkerOf(0, 0), 24);
        due.is("away", x.goals(0, 48), 24);
        x.evenings(1);
        due.is("a step", x.walkerOf(0, 0), 31);
    }

    /** "-1; -2": a house or walker that there is not comes before a wrong what; each what has its bounds. */
    static void whatOfNobody() {
        CandleIsADebt x = Due.village("h0000; w00002");
        due.is("houseOf(1, 8)", x.houseOf(1, 8), -1);
        due.is("houseOf(0, 8)", x.houseOf(0, 8), -2);
        due.is("houseOf(0, -1)", x.houseOf(0, -1), -2);
        due.is("houseOf(0, 7)", x.houseOf(0, 7), 1);
        due.is("walkerOf(1, 6)", x.walkerOf(1, 6), -1);
        due.is("walkerOf(0, 6)", x.walkerOf(0, 6), -2);
        due.is("walkerOf(0, -1)", x.walkerOf(0, -1), -2);
        due.is("walkerOf(0, 5)", x.walkerOf(0, 5), 0);
        due.is("age(1, 0)", x.age(1, 0), -1);
        due.is("age(0, 1)", x.age(0, 1), -1);
        due.is("age(0, 0): he does not", x.age(0, 0), -9);
        due.is("refused -1", x.count(11), 4);
        due.is("refused -2", x.count(12), 4);
    }

    /** All at once: 7 houses owed by 6 walkers for 99 evenings. */
    static void theFullestVillage() {
        CandleIsADebt x = Due.village("h5900; h5906; h5942; h5948; h5924; h5903; h5945; w24242; w24242; w24242; w24242; w24242; w24242");
        due.is("all is seen from the middle", x.walkerOf(5, 4), 0b1111111);
        due.is("all is owed", x.evenings(1), 42);
        x.evenings(60);
        x.evenings(60);
        due.is("count(3)", x.count(3), 42);
        due.is("count(4)", x.count(4), 42 * 232);
        due.is("prices(60)", x.prices(60), 42 * 232);
        due.is("mean, above", x.mean(0), 7 * 232);
        due.is("mean, below", x.mean(1), 1);
        due.is("forgiven", x.forgiven(), 42 * 198);
        due.is("owed by", x.houseOf(6, 6), 0b111111);
        due.is("street(0)", x.street(0), 18 * 232);
        due.is("street(3)", x.street(3), 6 * 232);
        due.is("dark: none", x.oldest(3), 0);
        due.is("lane: none", x.oldest(2), 0);
        due.is("lots, owed", x.lots(20, 9, 0), 20 * 42);
        due.is("lots, prices", x.lots(20, 9, 1), 20 * 42 * 232);
        due.is("nothing more is ever owed", x.gaps(), 0);
        due.is("who went", x.whoWent(4), 0b111111);
        due.is("spread", x.spread(0) + x.spread(1), 0);
        due.is("oldest", x.oldest(0), 99);
        due.is("by whom", x.oldest(1), 0);
        due.is("richest", x.richest(0), 0);
        due.is("debtor", x.richest(1), 0);
        due.is("trade: all owe it", x.trade(5, 6), -9);
        due.is("nearest", x.nearest(5), 4);
        due.is("shut: nothing is less", x.shut(60), -9);
        due.is("two: dark is as much", x.two(5, 6, 60), 11);
        due.is("burn", x.burn(30, 1), 6);
        due.is("where", x.burn(30, 0), 10);
        due.is("way: no more to owe", x.way(5, 48, 0), 0);
        due.is("way: steps", x.way(5, 48, 1), 6);
        due.is("moved: no more to owe", x.moved(5, 0, 60), 0);
        due.is("mist: owed", x.mist(5, 6, 7, 20, 1), 1);
        due.is("what kind: a train of 99 is owed", x.whatKind(5, 6, 1), 0b1111111111);
        due.is("pay all: 24 steps", x.payAll(5, -1), 7 * 232 + 3 * 24);
        due.is("the middle first", x.payAll(5, 0), 4);
        due.is("blind", x.blind(), 0);
    }
}
