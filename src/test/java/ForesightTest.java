/** Promises 15 to 21, 34, 36 and 38: what will be, and the ways there. */
public final class ForesightTest {
    private static final Due due = new Due();

    public static void main(String[] args) {
        promise15walkerIn();
        promise16prices();
        promise17owed();
        promise18home();
        promise19richest();
        promise20way();
        promise21payAll();
        promise34nearest();
        promise36gaps();
        promise38moved();
        due.end();
    }

    /** Walker 0 owes the candle, and sees the lodger (cell 20) first 6 evenings on: by cells 8, 15, 16, 17, 18 at 19. */
    private static CandleIsADebt corner() {
        return Due.village("h0003; h4220; w00202; w20000; g006; e01; g020");
    }

    private static void promise15walkerIn() {
        CandleIsADebt x = Due.village("h0003; h4220; w00062; w14202");
        int[] first = {1, 2, 3, 4, 5, 6, 6};
        for (int n = 1; n <= 7; n++) due.is("place behind " + n, x.walkerIn(0, n, 0), first[n - 1]);
        due.is("place now", x.walkerIn(0, 0, 0), 0);
        due.is("place behind 60", x.walkerIn(0, 60, 0), 6);
        due.is("owes now", x.walkerIn(0, 0, 1), 0);
        due.is("owes behind 1: the candle is 2 off", x.walkerIn(0, 1, 1), 1);
        due.is("price behind 1", x.walkerIn(0, 1, 2), 5);
        due.is("price behind 60", x.walkerIn(0, 60, 2), 5);
        due.is("owes behind 2: the candle is off 2, 1 and 2 in row 2", x.walkerIn(1, 2, 1), 0);
        due.is("the other behind 3: cell 17 is 2 off", x.walkerIn(1, 3, 1), 1);
        due.is("the other behind 5: cell 19", x.walkerIn(1, 5, 1), 3);
        due.is("price behind 5: 5 and 3", x.walkerIn(1, 5, 2), 8);
        due.is("price behind 60: 5 and 3 and 55", x.walkerIn(1, 60, 2), 63);
        due.is("nothing has changed", x.count(2) + x.count(3) + x.walkerOf(0, 0), 0);
        for (int i = 0; i < 16; i++) x.evenings(60);
        x.evenings(39);
        due.is("the evening may pass 999", x.walkerIn(0, 60, 0), 6);
        due.is("ages of 99 stay", x.walkerIn(1, 60, 2), 5 + 3 + 99);
    }

    private static void promise16prices() {
        CandleIsADebt x = corner();
        due.is("now", x.prices(0), 5);
        due.is("behind 3", x.prices(3), 5);
        due.is("behind 5", x.prices(5), 5);
        due.is("behind 6", x.prices(6), 5 + 3);
        due.is("behind 60", x.prices(60), 5 + 3 + 54);
        due.is("a new object's", new CandleIsADebt().prices(60), 0);
    }

    private static void promise17owed() {
        CandleIsADebt x = corner();
        due.is("now", x.owed(0, 0), 0);
        due.is("behind 6", x.owed(0, 1), 6);
        due.is("the blind one never", x.owed(1, 0), -9);
        x.lights(1);
        due.is("dark: never", x.owed(0, 1), -9);
        x.lights(1);
        x.goals(0, 1);
        due.is("not on his way: never", x.owed(0, 1), -9);
        CandleIsADebt far = Due.village("h2048; w00482");
        due.is("as far as can be", far.owed(0, 0), 12);
        CandleIsADebt stays = Due.village("h0000; w00002");
        due.is("he stays, and sees it in the next", stays.owed(0, 0), 1);
    }

    private static void promise18home() {
        CandleIsADebt x = Due.village("w00482; w48000; w24241; w20142");
        due.is("12 off", x.home(0), 12);
        due.is("12 off, blind", x.home(1), 12);
        due.is("there", x.home(2), 0);
        due.is("along a row", x.home(3), 6);
    }

    private static void promise19richest() {
        CandleIsADebt x = Due.village("h0000; h3000; h1000; w48480; w48480; w48480");
        due.is("nothing is owed", x.richest(0), -9);
        due.is("nobody owes", x.richest(1), -9);
        Due.tell(x, "o02;o11;o22;");
        due.is("owed by two", x.richest(0), 2);
        due.is("25 is more than 10", x.richest(1), 1);
        Due.tell(x, "o21;o10;o00;");
        due.is("three of two each: the least", x.richest(0), 0);
        due.is("35 of the third is more than 30 of the second", x.richest(1), 2);
        Due.tell(x, "o01;");
        due.is("40", x.richest(1), 0);
        CandleIsADebt even = Due.village("h0000; h0000; w48480; w48480; o01; o10");
        due.is("of several houses the least", even.richest(0), 0);
        due.is("of several walkers the least", even.richest(1), 0);
    }

    private static void promise20way() {
        // A candle in the middle, cell 24, is seen up to 2 off: row 3 is barred at columns 1 to 5.
        CandleIsADebt x = Due.village("h0024; w21272; w21271; w21270; w24482; w21272; o40");
        due.is("around it at no cost: by column 0 and row 0", x.way(0, 27, 0), 0);
        due.is("steps around it", x.way(0, 27, 1), 12);
        due.is("half of sight: around 1 off", x.way(1, 27, 1), 10);
        due.is("half of sight: no cost", x.way(1, 27, 0), 0);
        due.is("blind: straight", x.way(2, 27, 1), 6);
        due.is("owed already: straight", x.way(4, 27, 1), 6);
        due.is("owed already: no cost", x.way(4, 27, 0), 0);
        due.is("into it", x.way(0, 24, 0), 1);
        due.is("into it, steps", x.way(0, 24, 1), 3);
        due.is("where he is", x.way(3, 24, 0), 0);
        due.is("where he is, steps", x.way(3, 24, 1), 0);
        due.is("out of it", x.way(3, 48, 0), 1);
        due.is("out of it, steps", x.way(3, 48, 1), 6);
        due.is("the first cell costs nothing", Due.village("h2024; w24252").way(0, 25, 0), 0);
        due.is("the first cell of the map may cost as well", Due.village("h2000; w24252").way(0, 0, 0), 1);
        x.lights(0);
        due.is("dark: straight", x.way(0, 27, 1), 6);
        x.lights(0);
        x.house(0, 0, 3);
        due.is("the way round by row 6 is left", x.way(0, 27, 0), 0);
        due.is("and as long", x.way(0, 27, 1), 12);
        x.house(0, 0, 45);
        due.is("no way round is left", x.way(0, 27, 0), 1);
        due.is("straight", x.way(0, 27, 1), 6);
        tooLongAway();
    }

    /** Curtains make a wall in row 1 with a gap at column 6: from cell 0 to 14 it is 12 steps more by that. */
    private static void tooLongAway() {
        CandleIsADebt x = Due.village("h2007; h2008; h2009; h2010; h2011; h2012; w00142");
        due.is("12 steps more", x.way(0, 14, 1), 14);
        due.is("at no cost", x.way(0, 14, 0), 0);
        x.image();
        x.house(2, 0, 13);
        due.is("no gap", x.way(0, 14, 0), 1);
        due.is("no gap, steps", x.way(0, 14, 1), 2);
        x.restore();
        x.house(2, 0, 17);
        due.is("14 steps more are too many", x.way(0, 14, 0), 1);
        due.is("straight, then", x.way(0, 14, 1), 2);
        // A two's reach bars all of row 1, and the curtain its column 0.
        CandleIsADebt y = Due.village("h2007; h1210; h2012; w00142");
        due.is("no more than the two", y.way(0, 14, 0), 1);
        due.is("beside the curtain", y.way(0, 14, 1), 4);
    }

    private static void promise21payAll() {
        // From cell 0: doors in cells 6 (6 off), 2 and 14.
        CandleIsADebt x = Due.village("h0006; h0002; h1214; w00480; w00480; o00; o01; o02");
        // 14 first and then 2 and 6: 2 and 4 and 4 steps; 2, 6, 14: 2 and 4 and 8.
        due.is("minutes: 5, 5, 14 and 3 times 10", x.payAll(0, -1), 24 + 30);
        due.is("first", x.payAll(0, 0), 2);
        due.is("then", x.payAll(0, 1), 1);
        due.is("last", x.payAll(0, 2), 0);
        due.is("no more", x.payAll(0, 3), -9);
        due.is("far beyond", x.payAll(0, Integer.MAX_VALUE), -9);
        due.is("nothing owed: minutes", x.payAll(1, -1), 0);
        due.is("nothing owed: first", x.payAll(1, 0), -9);
        CandleIsADebt y = Due.village("h0025; h0023; h0023; h0025; h0024; h0017; h0031; w24240");
        Due.tell(y, "o00;o01;o02;o03;o04;");
        // Left or right first is as long: by numbers house 0 (right) first; the middle on the way back.
        int[] stops = {0, 3, 4, 1, 2};
        due.is("minutes of five and 3 steps", y.payAll(0, -1), 25 + 9);
        for (int i = 0; i < 5; i++) due.is("first by numbers, stop " + i, y.payAll(0, i), stops[i]);
        y.evenings(10);
        due.is("a candle's minutes have no age", y.payAll(0, -1), 34);
        Due.tell(y, "o05;o06;");
        due.is("seven doors: 1, 2, 2, 2 steps", y.payAll(0, -1), 35 + 3 * 7);
        due.is("a seventh stop", y.payAll(0, 6) >= 0 ? 1 : 0, 1);
        due.is("no eighth", y.payAll(0, 7), -9);
    }

    private static void promise34nearest() {
        CandleIsADebt x = Due.village("h0048; h0010; h0004; h0001; w00000; w00000; o00; o01; o02");
        due.is("two that are 4 off: the least", x.nearest(0), 1);
        due.is("nothing owed", x.nearest(1), -9);
        Due.tell(x, "o10;");
        due.is("12 off", x.nearest(1), 0);
    }

    private static void promise36gaps() {
        due.is("a new object's", new CandleIsADebt().gaps(), 0);
        // Curtains at the walker's feet in evenings 1, 2 and 4.
        CandleIsADebt x = Due.village("h2001; h2002; h2004; w00062");
        due.is("behind 2 nothing more comes in the third", x.gaps(), 2);
        x.lights(1);
        due.is("behind 1", x.gaps(), 1);
        x.lights(0);
        due.is("now", x.gaps(), 0);
        x.lights(0);
        x.lights(1);
        x.house(2, 0, 3);
        due.is("behind 4", x.gaps(), 4);
        Due.tell(x, "o00;");
        due.is("owed already: now", x.gaps(), 0);
    }

    private static void promise38moved() {
        CandleIsADebt x = Due.village("h0003; h4420; w00062; w00000; o00");
        due.is("the same goal", x.moved(0, 6, 60), 0);
        due.is("now", x.moved(0, 20, 0), 0);
        due.is("the lodger first seen in evening 7 of 20: 4 and 13", x.moved(0, 20, 20), 17);
        due.is("none for the blind", x.moved(1, 48, 60), 0);
        due.is("nothing has changed", x.walkerOf(0, 1), 6);
        CandleIsADebt y = Due.village("h5003; w00062");
        due.is("a train of 25 and twice 9 less", y.moved(0, 42, 10), 0);
        due.is("the train is seen from 4 off: at once and still", y.moved(0, 0, 10), 0);
        CandleIsADebt z = Due.village("h4006; w00062");
        due.is("2 and 5 less", z.moved(0, 42, 10), -7);
        due.is("as much behind 4", z.moved(0, 42, 4), 0);
    }
}
