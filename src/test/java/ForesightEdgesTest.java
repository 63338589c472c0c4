/** Part II, promises 15 to 21 and 26 to 30: a test for each sentence that names an edge, which stands above it. */
public final class ForesightEdgesTest {
    private static final Due due = new Due();
    private static final long FAR_LONG = 4000000000000000000L;

    public static void main(String[] args) throws ReflectiveOperationException {
        Due.all(ForesightEdgesTest.class);
        due.end();
    }

    /** In evening 999: walker 0 goes from 0 to 48, walker 1 has owed the lodger in 24 for 99 evenings. */
    private static CandleIsADebt lastEvening() {
        CandleIsADebt x = Due.village("h2048; h4024; w00002; w24242");
        for (int i = 0; i < 16; i++) x.evenings(60);
        x.evenings(39);
        x.goals(0, 48);
        return x;
    }

    /** "What one SEES now": who would see or owe more in the next evening does not yet, in anything that is told of now. */
    static void nowIsNotTheNextEvening() {
        CandleIsADebt x = Due.village("h0024; h4000; h4048; w24242; w48480; w00000; o11; o22");
        due.is("owed by", x.houseOf(0, 6), 0);
        due.is("owes", x.walkerOf(0, 3), 0);
        due.is("price", x.walkerOf(1, 5), 2);
        due.is("price now", x.walkerIn(1, 0, 2), 2);
        due.is("all prices now", x.prices(0), 4);
        due.is("owed by most", x.richest(0), 1);
        due.is("of the highest price", x.richest(1), 1);
        due.is("clear", x.clear(0, 1), -1);
        due.is("clear the other way", x.clear(1, 0), 1);
        due.is("pays for nothing", x.payAll(0, -1), 0);
        due.is("goes nowhere", x.payAll(0, 0), -9);
        due.is("pays 2 and 12 steps", x.payAll(1, -1), 38);
        due.is("went", x.whoWent(0), 0);
        due.is("owes nothing", x.spread(0), 0b001);
        due.is("owed by just one", x.spread(1), 0b110);
        due.is("mean, above", x.mean(0), 4);
        due.is("mean, below", x.mean(1), 3);
        due.is("forgiven", x.forgiven(), 0);
        due.is("nearest", x.nearest(0), -9);
        due.is("oldest", x.oldest(0), 0);
        due.is("by whom", x.oldest(1), 1);
        due.is("row 3", x.street(3), 0);
        due.is("row 0", x.street(0), 2);
        due.is("count(3)", x.count(3), 2);
        due.is("count(4)", x.count(4), 4);
        x.row(0);
        x.row(1);
        x.row(1);
        due.is("judged", x.judge(), -9);
        CandleIsADebt y = Due.village("h0500; h4500; h2000; w48480; w48480; o01; o10");
        Due.tell(y, "h0900;o03;o00;");
        due.is("a lodger of 5, candles of 10 and 14: 29, not above 30", y.trade(0, 1), -9);
        y.evenings(1);
        due.is("30 is not above 30", y.trade(0, 1), -9);
        y.evenings(1);
        due.is("31 is", y.trade(0, 1), 1);
    }

    /** "n EVENINGS on (0 .. 60; ..)", "-1; -4; -6 60; -2": the first that fits. */
    static void foreseen0To60() {
        CandleIsADebt x = Due.village("h4006; w00062");
        due.is("0: where", x.walkerIn(0, 0, 0), 0);
        due.is("0: owes", x.walkerIn(0, 0, 1), 0);
        due.is("60: where", x.walkerIn(0, 60, 0), 6);
        due.is("60: owes", x.walkerIn(0, 60, 1), 1);
        due.is("60: the lodger seen in the fifth, of age 55", x.walkerIn(0, 60, 2), 57);
        due.is("-1", x.walkerIn(0, -1, 0), -4);
        due.is("61", x.walkerIn(0, 61, 0), -6);
        due.is("what 3", x.walkerIn(0, 60, 3), -2);
        due.is("what -1", x.walkerIn(0, 0, -1), -2);
        due.is("-1, what 3", x.walkerIn(0, -1, 3), -4);
        due.is("61, what 3", x.walkerIn(0, 61, 3), -6);
        due.is("nobody, 61", x.walkerIn(1, 61, 0), -1);
        due.is("prices(0)", x.prices(0), 0);
        due.is("prices(4)", x.prices(4), 0);
        due.is("prices(5)", x.prices(5), 2);
        due.is("prices(60)", x.prices(60), 57);
        due.is("prices(-1)", x.prices(-1), -4);
        due.is("prices(61)", x.prices(61), -6);
    }

    /** "(.. EVENING may pass 999 there)": of all that is told in mind. */
    static void eveningMayPass999InMind() {
        CandleIsADebt x = lastEvening();
        due.is("an evening", x.evenings(1), -6);
        due.is("where", x.walkerIn(0, 60, 0), 48);
        due.is("owes", x.walkerIn(0, 60, 1), 1);
        due.is("all prices: a curtain, a lodger of 99", x.prices(60), 2 + 2 + 99);
        due.is("owed", x.owed(0, 0), 12);
        due.is("home", x.home(0), 12);
        due.is("burn", x.burn(30, 1), 2);
        due.is("shut", x.shut(60), 0);
        due.is("two: as good lit, better dark", x.two(0, 1, 60), 1);
        due.is("mist", x.mist(0, 0, 7, 2, 1), 1);
        due.is("gaps", x.gaps(), 0);
        due.is("moved", x.moved(0, 0, 60), -2);
        due.is("lots: from 31 by 24", x.lots(1, 1, 0), 2);
        x.row(99);
        x.row(99);
        due.is("what kind", x.whatKind(0, 0, 0), 0b111111);
        due.is("evening", x.count(2), 999);
    }

    /** "AGE .. (99 at most)": in mind as well. */
    static void ages99InMind() {
        CandleIsADebt x = Due.village("h4000; h5000; w00000; o00; e60; o01");
        due.is("behind 38: 2 and 98, 25 and 76", x.prices(38), 2 + 98 + 25 + 76);
        due.is("behind 39", x.prices(39), 2 + 99 + 25 + 78);
        due.is("behind 40", x.prices(40), 2 + 99 + 25 + 80);
        due.is("behind 60", x.walkerIn(0, 60, 2), 2 + 99 + 25 + 120);
    }

    /** "OWED: behind how many EVENINGS (0 .. 60) one OWES a HOUSE first; -9". */
    static void owedFirst() {
        CandleIsADebt x = Due.village("h0000; h2006; h2048; h0042; w00482; w00062; w00000; o00");
        due.is("now", x.owed(0, 0), 0);
        due.is("in the next", x.owed(1, 0), 1);
        due.is("behind 6", x.owed(1, 1), 6);
        due.is("behind 12", x.owed(0, 2), 12);
        due.is("he goes by it: first in the fourth", x.owed(0, 3), 4);
        due.is("he goes not there", x.owed(0, 1), -9);
        due.is("blind", x.owed(2, 0), -9);
        due.is("no such walker", x.owed(3, 0), -1);
        due.is("no such house", x.owed(0, 4), -1);
    }

    /** "HOME: behind how many he is at his GOAL first; -9". */
    static void homeFirst() {
        CandleIsADebt x = Due.village("w24240; w24251; w24312; w48002");
        int[] off = {0, 1, 1, 12};
        for (int w = 0; w < 4; w++) due.is("walker " + w, x.home(w), off[w]);
        x.evenings(11);
        due.is("one evening is left", x.home(3), 1);
        x.evenings(1);
        due.is("he is there", x.home(3), 0);
        due.is("a fifth", x.home(4), -1);
        due.is("one before the first", x.home(-1), -1);
    }

    /** "RICHEST: .. of several the least; -9 nothing is OWED; DEBTOR: .. likewise". */
    static void richestOfSeveral() {
        CandleIsADebt x = Due.village("h0000; h0000; h0000; w48480; w48480; w48480");
        due.is("no house", x.richest(0), -9);
        due.is("no walker", x.richest(1), -9);
        Due.tell(x, "o22;");
        due.is("the last house", x.richest(0), 2);
        due.is("the last walker", x.richest(1), 2);
        Due.tell(x, "o11;");
        due.is("of two houses the least", x.richest(0), 1);
        due.is("of two walkers the least", x.richest(1), 1);
        Due.tell(x, "o00;");
        due.is("of three houses", x.richest(0), 0);
        due.is("of three walkers", x.richest(1), 0);
        Due.tell(x, "o12;");
        due.is("the one of two", x.richest(0), 2);
        due.is("the one of 10", x.richest(1), 1);
        due.is("what -1", x.richest(-1), -2);
        due.is("what 2", x.richest(2), -2);
        CandleIsADebt one = Due.village("h2000; w00000; o00");
        due.is("of the least price there is, 2", one.richest(1), 0);
    }

    /** "by what he SEES on all its CELLS but the first one": the last one counts; where he is he has no way to go. */
    static void wayWithoutItsFirstCell() {
        CandleIsADebt x = Due.village("h2024; h2025; w24242");
        due.is("nowhere", x.way(0, 24, 0), 0);
        due.is("nowhere: steps", x.way(0, 24, 1), 0);
        due.is("out of the one curtain into the other", x.way(0, 25, 0), 1);
        due.is("a step", x.way(0, 25, 1), 1);
        due.is("around it", x.way(0, 26, 0), 0);
        due.is("4 steps instead of 2", x.way(0, 26, 1), 4);
        due.is("to 0", x.way(0, 0, 1), 6);
        due.is("to 0: no house", x.way(0, 0, 0), 0);
        due.is("to 48", x.way(0, 48, 1), 6);
        due.is("to 49", x.way(0, 49, 0), -1);
        due.is("to -1", x.way(0, -1, 0), -1);
        due.is("what 2", x.way(0, 48, 2), -2);
        due.is("what -1", x.way(0, 48, -1), -2);
        due.is("nobody, what 2", x.way(1, 48, 2), -1);
    }

    /** "CELLS 0 .. 48": the corners cost as all others do. */
    static void wayByTheCorners() {
        CandleIsADebt x = Due.village("h2000; h2008; w01012; w07072");
        due.is("around both curtains", x.way(0, 7, 0), 0);
        due.is("steps: 1, 2, 9, 16, 15, 14, 7", x.way(0, 7, 1), 6);
        due.is("and back", x.way(1, 1, 1), 6);
        CandleIsADebt y = Due.village("h2048; h2040; w47472");
        due.is("around the last corner", y.way(0, 41, 0), 0);
        due.is("steps", y.way(0, 41, 1), 6);
    }

    /** "1 STEP at a time": none leads from the end of a row to the start of the next one. */
    static void wayDoesNotRunOn() {
        CandleIsADebt x = Due.village("w06062; w07072");
        due.is("6 to 7", x.way(0, 7, 1), 7);
        due.is("7 to 6", x.way(1, 6, 1), 7);
        // Curtains in all of column 3: no way leads around them.
        CandleIsADebt y = Due.village("h2003; h2010; h2017; h2024; h2031; h2038; h2045; w21212");
        due.is("a wall", y.way(0, 27, 0), 1);
        due.is("through it", y.way(0, 27, 1), 6);
    }

    /** "the fewest HOUSES .. he would OWE more": what he owes already is no more, what is dark is none. */
    static void wayOfWhatHeOwes() {
        CandleIsADebt x = Due.village("h2003; h2010; h2017; h2024; h2031; h2038; h2045; w21212; o06");
        due.is("by the curtain that he owes", x.way(0, 27, 0), 0);
        due.is("by row 6", x.way(0, 27, 1), 12);
        x.lights(0);
        due.is("or by the dark one in row 0", x.way(0, 27, 1), 12);
        x.lights(2);
        due.is("by the dark one in row 2", x.way(0, 27, 1), 8);
        due.is("at no cost", x.way(0, 27, 0), 0);
    }

    /** "the fewest HOUSES ..; STEPS of the shortest such": fewer houses come before fewer steps. */
    static void wayOfFewestHousesFirst() {
        CandleIsADebt x = Due.village("h2001; h2002; h2008; h2009; h2014; w00002; w00001; w00000");
        due.is("from 0 to 3: by 1 are two curtains, by 8 or 14 one", x.way(0, 3, 0), 1);
        due.is("by 7, 14, 15, 16, 17, 10, 3", x.way(0, 3, 1), 7);
        due.is("half of no reach is as much", x.way(1, 3, 1), 7);
        due.is("the blind one goes straight", x.way(2, 3, 1), 3);
    }

    /** "(a way of at most 12 STEPS more than he is off)". */
    static void wayOf12StepsMore() {
        // A wall of curtains in row 1 but for column 6: from 0 to 14 by its gap are 6 and 2 and 6 steps.
        CandleIsADebt x = Due.village("h2007; h2008; h2009; h2010; h2011; h2012; w00002; w01012");
        due.is("12 more: no house", x.way(0, 14, 0), 0);
        due.is("12 more: steps", x.way(0, 14, 1), 14);
        due.is("10 more", x.way(1, 15, 1), 12);
        x.house(2, 0, 20);
        due.is("behind a house at the gap: one", x.way(0, 14, 0), 1);
        due.is("straight", x.way(0, 14, 1), 2);
        CandleIsADebt y = Due.village("h2007; h2008; h2009; h2010; h2011; h2012; h2017; w00002");
        due.is("14 more are too many", y.way(0, 14, 0), 1);
        due.is("straight, then", y.way(0, 14, 1), 2);
    }

    /** "PAY ALL: MINUTES (i -1), the i-th HOUSE (-9). -1; -4 below -1". */
    static void payAllFromMinus1On() {
        CandleIsADebt x = Due.village("h0024; h4031; w24240; w24240; o00; o01; e04");
        due.is("5, 2 and 4, a step", x.payAll(0, -1), 5 + 6 + 3);
        due.is("0", x.payAll(0, 0), 0);
        due.is("1", x.payAll(0, 1), 1);
        due.is("2: no more", x.payAll(0, 2), -9);
        due.is("7: no more", x.payAll(0, 7), -9);
        due.is("the greatest", x.payAll(0, Integer.MAX_VALUE), -9);
        due.is("-2", x.payAll(0, -2), -4);
        due.is("the least", x.payAll(0, Integer.MIN_VALUE), -4);
        due.is("nobody, -2", x.payAll(2, -2), -1);
        due.is("owes nothing: minutes", x.payAll(1, -1), 0);
        due.is("owes nothing: the first", x.payAll(1, 0), -9);
        due.is("refused -4", x.count(14), 2);
    }

    /** "the i-th HOUSE of the first such (by numbers)": doors in one cell, and rounds of the same length. */
    static void payAllTheFirstByNumbers() {
        CandleIsADebt x = Due.village("h0024; h0024; h0024; h0024; h0024; h0024; h0024; w00000");
        Due.tell(x, "o06;o05;o04;o03;o02;o01;o00;");
        for (int i = 0; i < 7; i++) due.is("all in one cell: " + i, x.payAll(0, i), i);
        due.is("7 fives and 6 steps", x.payAll(0, -1), 35 + 18);
        // Doors 2, 1, 1 and 2 off to both sides: the nearer one of the first side on the way there or back.
        CandleIsADebt y = Due.village("h0005; h0001; h0004; h0002; w03030; o00; o01; o02; o03");
        int[] stops = {0, 2, 3, 1};
        for (int i = 0; i < 4; i++) due.is("right first: " + i, y.payAll(0, i), stops[i]);
        due.is("2 and 4 steps", y.payAll(0, -1), 20 + 18);
        CandleIsADebt z = Due.village("h0001; h0005; h0002; h0004; w03030; o00; o01; o02; o03");
        for (int i = 0; i < 4; i++) due.is("left first: " + i, z.payAll(0, i), stops[i]);
    }

    /** "over the CELLS of all he OWES": houses between these, by numbers or on the map, are none of them. */
    static void payAllOfSomeHouses() {
        CandleIsADebt x = Due.village("h0048; h0002; h0024; h0005; h0003; h0001; h0000; w03030; o01; o03; o06");
        due.is("5, 2, 0: 7 steps", x.payAll(0, -1), 15 + 21);
        int[] stops = {3, 1, 6, -9};
        for (int i = 0; i < 4; i++) due.is("stop " + i, x.payAll(0, i), stops[i]);
        Due.tell(x, "o00;");
        due.is("2, 0, 5, 48: 1, 2, 5 and 7 steps", x.payAll(0, -1), 20 + 45);
        int[] then = {1, 6, 3, 0};
        for (int i = 0; i < 4; i++) due.is("stop " + i + " of four", x.payAll(0, i), then[i]);
    }

    /** "PAY ALL: the fewest STEPS ..": not always the nearest door first. */
    static void payAllNotTheNearestFirst() {
        // From 3: doors in 2 (1 off), 5 (2 off) and 0 (3 off): 5, 2, 0 are 2, 3, 2; 2, 0, 5 are 1, 2, 5.
        CandleIsADebt x = Due.village("h0000; h0002; h0005; w03030; o00; o01; o02");
        due.is("7 steps", x.payAll(0, -1), 15 + 21);
        due.is("the farther first", x.payAll(0, 0), 2);
        due.is("then", x.payAll(0, 1), 1);
        due.is("the last", x.payAll(0, 2), 0);
    }

    /** "WHO WENT: WALKERS (bits) that stand in the CELL of a HOUSE and OWE it": each of the two alone is not enough. */
    static void whoStandsAndOwes() {
        CandleIsADebt x = Due.village("h0024; w24240; w23230; w24240; w24240; w24240; w24240; o00; o10; o50");
        due.is("the first and the sixth", x.whoWent(0), 0b100001);
        due.is("a second house", x.whoWent(1), -1);
        due.is("none", Due.village("h0000").whoWent(0), 0);
    }

    /** "SPREAD: who OWES nothing (bits)", "SURE: HOUSES (bits) OWED by just one": none, one, two. */
    static void noneOneTwo() {
        CandleIsADebt x = Due.village("h0000; h0000; w48480; w48480");
        due.is("nobody owes", x.spread(0), 0b11);
        due.is("owed by none", x.spread(1), 0);
        Due.tell(x, "o00;");
        due.is("one owes", x.spread(0), 0b10);
        due.is("owed by one", x.spread(1), 0b01);
        Due.tell(x, "o10;o11;");
        due.is("both owe", x.spread(0), 0);
        due.is("owed by two, and by one", x.spread(1), 0b10);
        due.is("what 2", x.spread(2), -2);
        due.is("what -1", x.spread(-1), -2);
        due.is("no walkers, no houses", new CandleIsADebt().spread(0) + new CandleIsADebt().spread(1), 0);
    }

    private static CandleIsADebt rows(CandleIsADebt x, int... numbers) {
        x.empties();
        for (int v : numbers) x.row(v);
        return x;
    }

    /** "WHAT KIND: a ROW tells AGE ..": of none all is so; twelve numbers reach to 11 evenings on; "it stays". */
    static void rowsOfNoneAndOfTwelve() {
        CandleIsADebt x = Due.village("h2048; w01482");
        due.is("none: kinds", x.whatKind(0, 0, 0), 0b111111);
        due.is("none: figures", x.whatKind(0, 0, 1), 0b1111111111);
        int[] never = {99, 99, 99, 99, 99, 99, 99, 99, 99, 99, 99, 99};
        due.is("behind 11 he is there: no kind is unseen by then", rows(x, never).whatKind(0, 0, 0), 0);
        never[11] = 0;
        due.is("a curtain is seen in the eleventh", rows(x, never).whatKind(0, 0, 0), 0b000100);
        due.is("of any figure", x.whatKind(0, 0, 1), 0b1111111111);
        due.is("it stays", x.count(6), 12);
        due.is("a thirteenth", x.row(0), -6);
        x.goals(0, 47);
        due.is("beside it he never sees a curtain", rows(x, never).whatKind(0, 0, 0), 0);
        never[11] = 99;
        due.is("and that is a curtain", rows(x, never).whatKind(0, 0, 0), 0b000100);
    }

    /** "(99: he OWES it not)": told now, told of what is owed, and of what is owed for 99 evenings. */
    static void ninetyNineIsNotOwed() {
        CandleIsADebt x = Due.village("h0000; h2048; w48480; o00");
        due.is("owed: 99 is not so", rows(x, 99).whatKind(0, 0, 0), 0);
        due.is("owed: 0 is", rows(x, 0).whatKind(0, 0, 0), 0b111111);
        due.is("owed: 1 is not", rows(x, 1).whatKind(0, 0, 0), 0);
        due.is("not owed: 99 is so", rows(x, 99, 99).whatKind(0, 1, 0), 0b111111);
        due.is("not owed: 0 is not", rows(x, 0).whatKind(0, 1, 1), 0);
        x.evenings(60);
        x.evenings(37);
        due.is("97 and 98", rows(x, 97, 98).whatKind(0, 0, 1), 0b1111111111);
        due.is("98 is not 97", rows(x, 98).whatKind(0, 0, 1), 0);
        x.evenings(60);
        due.is("owed for 99 evenings: he owes it", rows(x, 99).whatKind(0, 0, 1), 0);
        due.is("not owed ever", rows(x, 99).whatKind(0, 1, 1), 0b1111111111);
    }

    /** "KINDS (bits) of that HOUSE ..; FIGURES (bits 0 .. 9)": the first and the last of both. */
    static void kindsAndFiguresFromFirstToLast() {
        // He goes from 0 along row 0 to the house in 6: 5 off in the first evening, 4 in the second.
        CandleIsADebt x = Due.village("h5906; w00062");
        due.is("seen in the first: a train of reach 5 and more", rows(x, 99, 0).whatKind(0, 0, 1), 0b1111111100);
        due.is("kinds of figure 9: moor and train", x.whatKind(0, 0, 0), 0b101000);
        due.is("in the second: of reach 4, figures 0 and 1", rows(x, 99, 99, 0).whatKind(0, 0, 1), 0b0000000011);
        CandleIsADebt far = Due.village("h5907; w06002");
        due.is("7 off at first, of reach 8: 6 in the first", rows(far, 99, 0).whatKind(0, 0, 1), 0b1111110000);
        due.is("a candle is seen in the fifth: 2 off", rows(far, 99, 99, 99, 99, 99, 0).whatKind(0, 0, 0), 0b000001);
        due.is("no such house", far.whatKind(0, 1, 2), -1);
        due.is("no such walker", far.whatKind(1, 0, 2), -1);
        due.is("what 2", far.whatKind(0, 0, 2), -2);
        due.is("what -1", far.whatKind(0, 0, -1), -2);
        due.is("it has stayed as it was", far.houseOf(0, 0) * 10 + far.houseOf(0, 1), 59);
    }

    /** "MIST: on each of n EVENINGS (0 .. 7) .. odds 1 in t (2 .. 20)": the bounds, in the order of the refusals. */
    static void mistsAtTheirBounds() {
        CandleIsADebt x = Due.village("h0000; w00002");
        due.is("0 evenings: 0", x.mist(0, 0, 0, 2, 0), 0);
        due.is("0 evenings: over 1", x.mist(0, 0, 0, 20, 1), 1);
        due.is("1 in 2", x.mist(0, 0, 1, 2, 0), 1);
        due.is("1 in 2, below", x.mist(0, 0, 1, 2, 1), 2);
        due.is("7 evenings, 1 in 2", x.mist(0, 0, 7, 2, 0), 127);
        due.is("7 evenings, 1 in 2, below", x.mist(0, 0, 7, 2, 1), 128);
        due.is("7 evenings, 1 in 20", x.mist(0, 0, 7, 20, 0), 1279999999L);
        due.is("7 evenings, 1 in 20, below", x.mist(0, 0, 7, 20, 1), 1280000000L);
        due.is("nobody", x.mist(1, 0, -1, 1, 2), FAR_LONG + 1);
        due.is("no house", x.mist(0, 1, 8, 21, 2), FAR_LONG + 1);
        due.is("-1 evenings", x.mist(0, 0, -1, 21, 2), FAR_LONG + 4);
        due.is("1 in 1", x.mist(0, 0, 8, 1, 2), FAR_LONG + 4);
        due.is("8 evenings", x.mist(0, 0, 8, 2, 2), FAR_LONG + 6);
        due.is("1 in 21", x.mist(0, 0, 7, 21, 2), FAR_LONG + 6);
        due.is("part 2", x.mist(0, 0, 7, 20, 2), FAR_LONG + 2);
        due.is("part -1", x.mist(0, 0, 7, 20, -1), FAR_LONG + 2);
        int[] counted = {2, 2, 0, 2, 0, 2};
        for (int i = 0; i < 6; i++) due.is("refused " + (-1 - i), x.count(11 + i), counted[i]);
    }

    /** "(Fractions are told in lowest terms; 0 as 0 over 1)": and what is sure is 1 over 1. */
    static void mistsInLowestTerms() {
        CandleIsADebt x = Due.village("h0006; h2000; w00062; w48482; w00000; o21");
        due.is("seen in none of three: 0", x.mist(0, 0, 3, 20, 0), 0);
        due.is("over 1", x.mist(0, 0, 3, 20, 1), 1);
        due.is("seen in one of four", x.mist(0, 0, 4, 20, 0), 19);
        due.is("over 20", x.mist(0, 0, 4, 20, 1), 20);
        due.is("where he was is not seen", x.mist(0, 1, 7, 20, 0), 0);
        due.is("never seen", x.mist(1, 1, 7, 20, 1), 1);
        due.is("owed by the blind", x.mist(2, 1, 7, 20, 0), 1);
        due.is("over 1", x.mist(2, 1, 7, 20, 1), 1);
        due.is("the blind see none", x.mist(2, 0, 7, 20, 0), 0);
    }
}
