/** Part II, promises 22 to 25, 29 and 40 to 43: a test for each sentence that names an edge, which stands above it. */
public final class ChoiceEdgesTest {
    private static final Due due = new Due();

    public static void main(String[] args) throws ReflectiveOperationException {
        Due.all(ChoiceEdgesTest.class);
        due.end();
    }

    /** "CLEAR .. (may be below 0)": from -6 to 6. "1000000000 less them (-1 as 1000000001)". */
    static void clearFromMinus6To6() {
        CandleIsADebt x = Due.village("h0000; h0000; w48480; w48480; w48480; w48480; w48480; w48480");
        due.is("nothing owed", x.clear(0, 1), 0);
        Due.tell(x, "o00;o10;o20;o30;o40;o50;");
        due.is("all owe the one", x.clear(0, 1), 6);
        due.is("all owe the other", x.clear(1, 0), -6);
        Due.tell(x, "o01;");
        due.is("one owes both", x.clear(1, 0), -5);
        x.trades(1, 0, 5);
        due.is("another one owes both", x.clear(0, 1), 5);
        Due.tell(x, "o01;");
        due.is("two owe both", x.clear(0, 1), 4);
        due.is("one twice", x.clear(1, 1), 1000000001);
        due.is("one twice, no such one", x.clear(2, 2), 1000000001);
        due.is("no such one", x.clear(-1, 0), 1000000001);
        due.is("no such other", x.clear(0, 2), 1000000001);
        due.is("refused -1", x.count(11), 4);
    }

    /** "BURN: .. on one of the next n EVENINGS (1 .. 30)": not now, not in evening n + 1. "-4 1; -6 30; -2". */
    static void burnFrom1To30() {
        // Of half sight he sees the candle from 1 off; he goes from 24 by 25, 26 to 27.
        CandleIsADebt x = Due.village("w24271");
        due.is("in the first: from 25", x.burn(1, 0), 18);
        due.is("30", x.burn(30, 0), 18);
        CandleIsADebt y = Due.village("w27241");
        due.is("from 26", y.burn(1, 0), 19);
        due.is("or from 25", y.burn(2, 0), 18);
        due.is("or from 24", y.burn(3, 0), 17);
        due.is("where he stays", y.burn(30, 0), 17);
        due.is("how many", y.burn(30, 1), 1);
        due.is("0", y.burn(0, 0), -4);
        due.is("31", y.burn(31, 0), -6);
        due.is("0, what 2", y.burn(0, 2), -4);
        due.is("31, what 2", y.burn(31, 2), -6);
        due.is("what 2", y.burn(30, 2), -2);
        due.is("what -1", y.burn(1, -1), -2);
    }

    /** "by which most WALKERS SEE it on one of the next n EVENINGS, of several the least": each on an evening of his own. */
    static void burnByMost() {
        CandleIsADebt x = Due.village("w00061; w06001; w48421");
        due.is("at 1, 5, 47: one, the least", x.burn(1, 0), 0);
        due.is("one", x.burn(1, 1), 1);
        due.is("at 2, 4, 46: cell 3 for both", x.burn(2, 0), 3);
        due.is("two", x.burn(2, 1), 2);
        due.is("0 by one in the first, by the other in the fifth", x.burn(5, 0), 0);
        due.is("two still", x.burn(5, 1), 2);
        CandleIsADebt all = Due.village("w24242; w24242; w24242; w24242; w24242; w24242");
        due.is("all six", all.burn(1, 1), 6);
        due.is("from 2 off", all.burn(1, 0), 10);
        CandleIsADebt last = Due.village("w48481; w41481");
        due.is("near the last cell", last.burn(1, 0), 41);
        CandleIsADebt blind = Due.village("w48480; w24240");
        due.is("the blind: the least cell", blind.burn(30, 0), 0);
        due.is("the blind: none", blind.burn(30, 1), 0);
    }

    /** "a CANDLE more (LIT, FIGURE 0)": whatever houses there are, whatever was tried before, and beside seven. */
    static void burnACandleMore() {
        CandleIsADebt x = Due.village("h5924; h5924; l0; w24242; o00");
        due.is("beside a dark train", x.burn(1, 0), 10);
        x.row(50);
        due.is("another kind was tried", x.whatKind(0, 0, 0), 0);
        due.is("beside it still", x.burn(1, 0), 10);
        Due.tell(x, "w48482;w48482;h5948;e09;l9;");
        due.is("a village with a fault was tried", x.burn(1, 0), 10);
        due.is("by one", x.burn(1, 1), 1);
        due.is("another goal was tried", x.moved(0, 0, 60), 0);
        due.is("by his own", x.burn(30, 0), 10);
        for (int i = 2; i < 7; i++) x.house(2, 0, 0);
        due.is("beside seven", x.burn(30, 0), 10);
        due.is("there are seven", x.count(0), 7);
    }

    /** "SHUT: the HOUSE LIT which .. less than else, of several the least; -9", "-4; -6 60". */
    static void shutWhatIsLit() {
        CandleIsADebt x = Due.village("h0024; h0024; h0024; w24242");
        due.is("behind 0", x.shut(0), -9);
        due.is("of three the least", x.shut(1), 0);
        x.lights(0);
        due.is("of the lit ones", x.shut(1), 1);
        due.is("behind 60", x.shut(60), 1);
        x.lights(1);
        due.is("the last one", x.shut(60), 2);
        x.lights(2);
        due.is("none is lit", x.shut(60), -9);
        due.is("-1", x.shut(-1), -4);
        due.is("61", x.shut(61), -6);
        CandleIsADebt owed = Due.village("h5900; w00002; o00");
        due.is("what is owed is no less", owed.shut(60), -9);
        CandleIsADebt blind = Due.village("h5900; w00000");
        due.is("what nobody sees", blind.shut(60), -9);
        CandleIsADebt least = Due.village("h2048; h2000; w00482");
        due.is("of 2 less", least.shut(12), 0);
        due.is("not seen by then", least.shut(11), -9);
        due.is("nothing has changed", least.oldest(3), 0);
    }

    /** "SHUT .. makes all PRICES least": the last one, and one that grows dearer with its age. */
    static void shutTheDearest() {
        CandleIsADebt x = Due.village("h2000; h0000; h4000; w00002; w00002");
        due.is("two candles of 5", x.shut(1), 1);
        due.is("behind 4: lodgers of 2 and 3 are as dear", x.shut(4), 1);
        due.is("behind 5: dearer", x.shut(5), 2);
    }

    /** "TRADE: the WALKER .. (as a whole) counted twice .. less than else, of several the least; -9". */
    static void tradeToTheLeast() {
        // A moor of 25 and a curtain of 6 are 31, counted as 62.
        CandleIsADebt x = Due.village("h3000; h2700; h0000; w48480; w48480; w48480; o20; o21");
        due.is("to the first of two", x.trade(2, 1), 0);
        due.is("the moor as well", x.trade(2, 0), 0);
        Due.tell(x, "o01;");
        due.is("he owes it: the next", x.trade(2, 1), 1);
        due.is("he would owe 31", x.trade(2, 0), 1);
        Due.tell(x, "o11;");
        due.is("all owe it", x.trade(2, 1), -9);
        due.is("all would owe 31", x.trade(2, 0), -9);
        due.is("owes it not", x.trade(0, 0), -3);
        due.is("no such walker", x.trade(3, 0), -1);
        due.is("no such house", x.trade(0, 3), -1);
        due.is("nothing has changed", x.count(3), 4);
    }

    /** "each one's above 30": 30 is not, 31 is, and with it all of it. */
    static void tradeAbove30() {
        CandleIsADebt x = Due.village("h3000; h0000; h2700; w48480; w48480; o00; o01");
        due.is("30", x.trade(0, 1), -9);
        Due.tell(x, "o02;");
        due.is("36: 30 and 6 are counted once", x.trade(0, 2), 1);
        due.is("36: 31 and 5 are 67, less than 72", x.trade(0, 1), 1);
        Due.tell(x, "h3000;o13;");
        due.is("5 more of another are 30: 62 and 30", x.trade(0, 1), 1);
        due.is("6 more are 31: 30 and 62, less than 72 and 25", x.trade(0, 2), 1);
        Due.tell(x, "h0000;h0000;o04;");
        due.is("41 and 25 are 107; 35 and 31 are 132", x.trade(0, 2), -9);
        due.is("36 and 30 are 102", x.trade(0, 1), 1);
    }

    /** "TWO HOUSES, each is dark (1) or LIT (0)": as good is as good, and LIT is the first. "-1 (one twice, too); -4; -6 60". */
    static void twoOfAsGood() {
        // House 0 is seen by none, 1 by one (as good), 2 by two.
        CandleIsADebt x = Due.village("h2048; h2000; h2006; w00002; w06062; w06062");
        int[][] due60 = {{-1, 10, 10}, {1, -1, 0}, {1, 0, -1}};
        for (int one = 0; one < 3; one++) {
            for (int other = 0; other < 3; other++) {
                due.is("two(" + one + ", " + other + ", 60)", x.two(one, other, 60), due60[one][other]);
                due.is("two(" + one + ", " + other + ", 1)", x.two(one, other, 1), due60[one][other]);
                if (one != other) due.is("now dark is better", x.two(one, other, 0), 11);
            }
        }
        due.is("one twice, -1", x.two(1, 1, -1), -1);
        due.is("no such one, 61", x.two(3, 0, 61), -1);
        due.is("no such other", x.two(0, -1, 0), -1);
        due.is("-1", x.two(0, 1, -1), -4);
        due.is("61", x.two(0, 1, 61), -6);
        due.is("nothing has changed", x.oldest(3), 0);
    }

    /** "each is dark (1) or LIT (0) from now on": whatever it is now, and what was tried before. */
    static void twoFromNowOn() {
        CandleIsADebt x = Due.village("h2000; h2000; w00002; w00002; l0; l1");
        due.is("both are dark", x.two(0, 1, 1), 0);
        Due.tell(x, "l0;o00;o10;");
        due.is("owed by both already", x.two(0, 1, 9), 10);
        Due.tell(x, "e09;o01;o11;x");
        due.is("the other way round", x.two(1, 0, 9), 1);
        Due.tell(x, "o01;o11;l9;");
        due.is("what was tried is no more", x.two(1, 0, 9), 1);
        x.moved(0, 48, 60);
        due.is("his goal neither", x.two(0, 1, 60), 10);
    }

    /** "A number more of the ROW: how many. -4; -6 (99; 12, too)". */
    static void rowOf12() {
        CandleIsADebt x = new CandleIsADebt();
        due.is("-1", x.row(-1), -4);
        due.is("100", x.row(100), -6);
        for (int i = 1; i <= 12; i++) due.is("number " + i, x.row(i == 1 ? 0 : 99), i);
        due.is("a thirteenth", x.row(0), -6);
        due.is("a thirteenth of 100", x.row(100), -6);
        due.is("a thirteenth of -1", x.row(-1), -4);
        due.is("twelve", x.empties(), 12);
        due.is("there is room again", x.row(0), 1);
        due.is("refused -4", x.count(14), 2);
        due.is("refused -6", x.count(16), 3);
    }

    private static CandleIsADebt rows(CandleIsADebt x, int... numbers) {
        for (int v : numbers) x.row(v);
        return x;
    }

    /** "JUDGED: .. the first that is not so (none there, too); -9": of none, of seven, of twelve. "(.. the ROW has none then)". */
    static void judgedFromFirstToLast() {
        CandleIsADebt x = Due.village("h0000; h0000; h0000; h0000; h0000; h0000; h0000; w48480; w48480; o00; o06; o16");
        due.is("of none", x.judge(), -9);
        due.is("of seven", rows(x, 1, 0, 0, 0, 0, 0, 2).judge(), -9);
        due.is("none then", x.count(6), 0);
        due.is("the first", rows(x, 0, 0, 0, 0, 0, 0, 2).judge(), 0);
        due.is("none then", x.count(6), 0);
        due.is("the last", rows(x, 1, 0, 0, 0, 0, 0, 1).judge(), 6);
        due.is("of two the first", rows(x, 1, 1, 1).judge(), 1);
        due.is("an eighth, none there", rows(x, 1, 0, 0, 0, 0, 0, 2, 0).judge(), 7);
        due.is("of twelve", rows(x, 1, 0, 0, 0, 0, 0, 2, 9, 9, 9, 9, 9).judge(), 7);
        due.is("99 is a number here", rows(x, 1, 99).judge(), 1);
        due.is("no house", rows(new CandleIsADebt(), 0).judge(), 0);
    }

    /** "The ROW has none then: how many it had": none, one, twelve. */
    static void emptiesAll() {
        CandleIsADebt x = Due.village("h0000; w00000");
        due.is("none", x.empties(), 0);
        rows(x, 5);
        due.is("one", x.empties(), 1);
        rows(x, 1, 2, 3, 4, 5, 6, 7, 8, 9, 10, 11, 12);
        due.is("twelve", x.empties(), 12);
        due.is("none then", x.empties(), 0);
        due.is("of which all is so", x.whatKind(0, 0, 0), 0b111111);
        due.is("and judged", x.judge(), -9);
    }

    /** "DRAWS: z .. (an int, wrapping)": seeds at both ends of the ints, of either sign, and one whose draws are cut. */
    static void lotsOfAnySeed() {
        // The first draws of 0 and of the least int are 0 and 6, of -1 and of the greatest 4 and 48, of 2 they are 26
        // and 32, of 12345 they are 6 and 41.
        int[] seeds = {0, Integer.MIN_VALUE, -1, Integer.MAX_VALUE, 2, 12345};
        int[] goals = {6, 6, 48, 48, 32, 41};
        int[] off = {6, 6, 8, 8, 2, 5};
        for (int i = 0; i < seeds.length; i++) {
            CandleIsADebt x = new CandleIsADebt();
            x.house(4, 0, goals[i]);
            x.walker(24, 24, 1);
            due.is("seed " + seeds[i] + ": owed", x.lots(1, seeds[i], 0), 1);
            due.is("of half sight, a lodger is first seen there", x.lots(1, seeds[i], 1), 2 + 12 - off[i]);
        }
    }

    /** "a DRAW below 49", "then 12 EVENINGS": from corner to corner he comes in the twelfth. */
    static void lotsOf12Evenings() {
        // The first draws of -13010 are 0 and 48.
        CandleIsADebt x = Due.village("h2048; w24242");
        due.is("seen in the twelfth", x.lots(1, -13010, 0), 1);
        due.is("price", x.lots(1, -13010, 1), 2);
        CandleIsADebt y = Due.village("h2000; w24242");
        due.is("where he is drawn to is no evening", y.lots(1, -13010, 0), 0);
    }

    /** "n years (1 .. 20), each from now": "-4; -6 20; -2". */
    static void lotsOf1To20Years() {
        CandleIsADebt x = Due.village("h4000; w24240; o00; e03");
        due.is("1 year", x.lots(1, 7, 0), 1);
        due.is("1 year: 2 and 15", x.lots(1, 7, 1), 17);
        due.is("20 years", x.lots(20, 7, 0), 20);
        due.is("20 years, each from now", x.lots(20, 7, 1), 20 * 17);
        due.is("0", x.lots(0, 7, 0), -4);
        due.is("21", x.lots(21, 7, 0), -6);
        due.is("0, what 2", x.lots(0, 7, 2), -4);
        due.is("21, what 2", x.lots(21, 7, 2), -6);
        due.is("what 2", x.lots(20, 7, 2), -2);
        due.is("what -1", x.lots(1, 7, -1), -2);
        due.is("nothing has changed", x.walkerOf(0, 0) + x.count(2), 27);
        due.is("without walkers", Due.village("h0000").lots(20, 7, 1), 0);
        due.is("without houses", Due.village("w00002").lots(20, 7, 0), 0);
    }
}
