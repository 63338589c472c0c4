/** Promises 1 and 4 to 14: what there is, and what changes it. */
public final class StateTest {
    private static final Due due = new Due();

    public static void main(String[] args) {
        promise1aNewObject();
        promise4houseOf();
        promise5walkerOf();
        promise6age();
        promise7house();
        promise8walker();
        promise9lights();
        promise10goals();
        promise11visits();
        promise12trades();
        promise13evenings();
        promise14back();
        due.end();
    }

    private static void promise1aNewObject() {
        CandleIsADebt x = new CandleIsADebt();
        for (int what = 0; what <= 7; what++) due.is("new: count(" + what + ")", x.count(what), 0);
        for (int what = 11; what <= 16; what++) due.is("new: count(" + what + ")", x.count(what), 0);
        due.is("new: houseOf(0, 0)", x.houseOf(0, 0), -1);
        due.is("new: walkerOf(0, 0)", x.walkerOf(0, 0), -1);
    }

    private static void promise4houseOf() {
        int[] figures = {0, 7, 9};
        int[][] reach = {{2, 2, 2}, {3, 3, 3}, {0, 0, 0}, {2, 5, 6}, {1, 1, 1}, {4, 7, 8}};
        int[][] minutes = {{5, 12, 14}, {10, 24, 28}, {2, 6, 7}, {25, 32, 34}, {2, 6, 7}, {25, 32, 34}};
        for (int kind = 0; kind < 6; kind++) {
            CandleIsADebt x = new CandleIsADebt();
            for (int i = 0; i < 3; i++) {
                String house = "kind " + kind + ", figure " + figures[i] + ": houseOf ";
                int h = x.house(kind, figures[i], 30 + i);
                due.is(house + "0", x.houseOf(h, 0), kind);
                due.is(house + "1", x.houseOf(h, 1), figures[i]);
                due.is(house + "2", x.houseOf(h, 2), 30 + i);
                due.is(house + "3", x.houseOf(h, 3), 1);
                due.is(house + "4", x.houseOf(h, 4), reach[kind][i]);
                due.is(house + "5", x.houseOf(h, 5), minutes[kind][i]);
            }
        }
        // A candle in the middle; walkers 2 steps off whole, 1 off half, 2 off half, there but blind, 1 off whole, 3 off whole.
        CandleIsADebt x = Due.village("h0024; w22222; w23231; w22221; w24240; w31312; w03032; o10; o40");
        due.is("seen by", x.houseOf(0, 7), 0b010011);
        due.is("owed by", x.houseOf(0, 6), 0b010010);
        x.lights(0);
        due.is("dark: seen by", x.houseOf(0, 7), 0);
        due.is("dark: owed by", x.houseOf(0, 6), 0b010010);
        due.is("dark: lit", x.houseOf(0, 3), 0);
        due.is("dark: reach", x.houseOf(0, 4), 2);
    }

    private static void promise5walkerOf() {
        // A two (reach 3, half of it 1), a moor of figure 9 (6, 3), a curtain (0, 0), all in cell 24; a dark candle.
        CandleIsADebt x = Due.village("h1324; h3924; h2024; h0124; l3; w21482; w22021; w24001; w24240; o00; o02");
        due.is("at", x.walkerOf(0, 0), 21);
        due.is("goal", x.walkerOf(0, 1), 48);
        due.is("sight", x.walkerOf(1, 2), 1);
        due.is("owes", x.walkerOf(0, 3), 0b101);
        due.is("owes nothing", x.walkerOf(1, 3), 0);
        due.is("sees, whole, 3 off", x.walkerOf(0, 4), 0b011);
        due.is("sees, half, 2 off", x.walkerOf(1, 4), 0b010);
        due.is("sees, half, there", x.walkerOf(2, 4), 0b111);
        due.is("sees, blind", x.walkerOf(3, 4), 0);
        due.is("price, a two of 16 and a curtain of 2", x.walkerOf(0, 5), 18);
        due.is("price of nothing", x.walkerOf(1, 5), 0);
    }

    private static void promise6age() {
        CandleIsADebt x = Due.village("h0000; h4406; h5342; w48480; o00; o01; o02");
        due.is("age at first", x.age(0, 0), 0);
        x.evenings(5);
        due.is("age behind 5", x.age(0, 0), 5);
        due.is("price behind 5: 5, 4 and 5, 28 and 10", x.walkerOf(0, 5), 52);
        x.evenings(60);
        x.evenings(34);
        due.is("age behind 99", x.age(0, 0), 99);
        x.evenings(1);
        due.is("age behind 100", x.age(0, 0), 99);
        due.is("price then", x.walkerOf(0, 5), 5 + 4 + 99 + 28 + 198);
        CandleIsADebt y = Due.village("h0000; w00000");
        due.is("not owed", y.age(0, 0), -9);
    }

    private static void promise7house() {
        CandleIsADebt x = new CandleIsADebt();
        for (int i = 0; i < 7; i++) due.is("house " + i, x.house(i % 6, i, 6 * i), i);
        due.is("houses", x.count(0), 7);
        due.is("no room", x.house(0, 0, 0), -6);
        due.is("lit at first", x.oldest(3), 0);
    }

    private static void promise8walker() {
        CandleIsADebt x = new CandleIsADebt();
        x.house(0, 0, 0);
        for (int i = 0; i < 6; i++) due.is("walker " + i, x.walker(0, 48, i % 3), i);
        due.is("walkers", x.count(1), 6);
        due.is("no room", x.walker(0, 0, 0), -6);
        due.is("owes nothing by having come", x.count(3), 0);
    }

    private static void promise9lights() {
        CandleIsADebt x = Due.village("h0024; w24242");
        due.is("dark", x.lights(0), 0);
        due.is("is dark", x.houseOf(0, 3), 0);
        due.is("what is dark is not seen", x.evenings(3), 0);
        due.is("lit", x.lights(0), 1);
        due.is("what is lit is seen in the next evening", x.count(3), 0);
        due.is("and owed then", x.evenings(1), 1);
    }

    private static void promise10goals() {
        CandleIsADebt x = Due.village("w00062");
        due.is("goal was", x.goals(0, 48), 6);
        due.is("goal was then", x.goals(0, 48), 48);
        due.is("goal is", x.walkerOf(0, 1), 48);
        due.is("is where he was", x.walkerOf(0, 0), 0);
    }

    private static void promise11visits() {
        CandleIsADebt x = Due.village("h5325; w24242; w25252");
        x.evenings(4);
        due.is("elsewhere", x.visits(0, 0), -3);
        due.is("a train of 28 and twice 3", x.visits(1, 0), 34);
        due.is("owes it no more", x.age(1, 0), -9);
        due.is("the other still does", x.age(0, 0), 3);
        due.is("owes it not", x.visits(1, 0), -3);
        x.evenings(1);
        due.is("sees it anew", x.age(1, 0), 0);
        x.lights(0);
        due.is("a dark house is visited as well", x.visits(1, 0), 28);
    }

    private static void promise12trades() {
        CandleIsADebt x = Due.village("h0000; w48480; w48480; w48480; o00; e07; o20");
        due.is("age stays", x.trades(0, 0, 1), 7);
        due.is("the one owes it not", x.age(0, 0), -9);
        due.is("the other does", x.age(1, 0), 7);
        due.is("the one owed it not", x.trades(0, 0, 1), -3);
        due.is("the other owed it", x.trades(0, 1, 2), -3);
        due.is("one twice", x.trades(0, 1, 1), -1);
        due.is("nothing came of these", x.houseOf(0, 6), 0b110);
    }

    private static void promise13evenings() {
        CandleIsADebt x = Due.village("w00162; w48322; w14202");
        int[][] places = {{7, 41, 15}, {14, 34, 16}, {15, 33, 17}, {16, 32, 18}, {16, 32, 19}, {16, 32, 20}, {16, 32, 20}};
        for (int n = 1; n <= 7; n++) {
            due.is("owed behind " + n, x.evenings(1), 0);
            for (int w = 0; w < 3; w++) due.is("walker " + w + " behind " + n, x.walkerOf(w, 0), places[n - 1][w]);
        }
        // He passes a candle in cell 3: sees it from cell 1 on, and a lodger in cell 20 only from cell 13 or 20.
        CandleIsADebt y = Due.village("h0003; h4020; w00202; w00200");
        due.is("owed at once", y.count(3), 0);
        y.goals(0, 6);
        due.is("owed behind 1", y.evenings(1), 1);
        due.is("owed behind 6", y.evenings(5), 1);
        due.is("age of the first", y.age(0, 0), 5);
        y.goals(0, 20);
        due.is("owed behind 7", y.evenings(1), 2);
        due.is("age of the second", y.age(0, 1), 0);
        due.is("age of the first then", y.age(0, 0), 6);
        due.is("the blind one owes nothing", y.walkerOf(1, 3), 0);
        due.is("evening", y.count(2), 7);
        for (int i = 0; i < 16; i++) y.evenings(60);
        due.is("evening then", y.count(2), 967);
        due.is("above 999", y.evenings(33), -6);
        due.is("up to 999", y.evenings(32), 2);
        due.is("above 999 by one", y.evenings(1), -6);
    }

    private static void promise14back() {
        CandleIsADebt x = Due.village("h0000; h0000; w00482; w48002; o00");
        x.lights(1);
        x.goals(0, 6);
        x.visits(0, 0);
        x.evenings(2);
        due.is("owed then", x.count(3), 1);
        x.trades(0, 0, 1);
        due.is("to be taken back", x.count(7), 5);
        due.is("trade taken back", x.back(), 4);
        due.is("owes it again", x.walkerOf(0, 3), 1);
        due.is("evenings taken back", x.back(), 3);
        due.is("evening", x.count(2), 0);
        due.is("is where he was", x.walkerOf(1, 0), 48);
        due.is("visit taken back", x.back(), 2);
        due.is("owes it still", x.age(0, 0), 0);
        due.is("goal taken back", x.back(), 1);
        due.is("goal", x.walkerOf(0, 1), 48);
        due.is("light taken back", x.back(), 0);
        due.is("lit", x.houseOf(1, 3), 1);
        due.is("none", x.back(), -3);
        x.feed('x');
        x.row(3);
        x.goals(0, 48);
        x.goals(0, 49);
        due.is("one that changes nothing counts, one refused does not", x.count(7), 1);
        for (int i = 1; i <= 9; i++) x.goals(0, i);
        due.is("8 at most", x.count(7), 8);
        for (int i = 8; i >= 1; i--) {
            due.is("back of 8", x.back(), i - 1);
            due.is("goal of 8", x.walkerOf(0, 1), i);
        }
        due.is("older ones no more", x.back(), -3);
        due.is("letters stay", x.count(5), 1);
        due.is("the row stays", x.count(6), 1);
        due.is("refusals stay", x.count(13), 2);
        leaveNone();
    }

    private static void leaveNone() {
        CandleIsADebt x = Due.village("h0000; w00482");
        x.image();
        x.lights(0);
        x.house(6, 0, 0);
        x.walker(49, 0, 0);
        x.house(0, 10, 0);
        due.is("refused, these leave it", x.count(7), 1);
        Due.tell(x, "h");
        due.is("a fault leaves it", x.count(7), 1);
        x.image();
        due.is("an image leaves it", x.count(7), 1);
        x.house(0, 0, 0);
        due.is("house() leaves none", x.count(7), 0);
        x.lights(0);
        x.walker(0, 0, 0);
        due.is("walker() leaves none", x.count(7), 0);
        x.lights(0);
        Due.tell(x, "l0;");
        due.is("a village leaves none", x.count(7), 0);
        x.lights(0);
        x.restore();
        due.is("restore() leaves none", x.count(7), 0);
        due.is("and back() is refused", x.back(), -3);
    }
}
