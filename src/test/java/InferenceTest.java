/** Promises 26 to 28 and 30: who it was, what it is, how likely it is. */
public final class InferenceTest {
    private static final Due due = new Due();

    public static void main(String[] args) {
        promise26whoWent();
        promise27spread();
        promise28whatKind();
        promise30mist();
        due.end();
    }

    private static void promise26whoWent() {
        CandleIsADebt x = Due.village("h0024; h0025; w24240; w24242; w25240; w24240; o00; o20; o30");
        due.is("who stand there and owe it", x.whoWent(0), 0b1001);
        due.is("none owes the other", x.whoWent(1), 0);
        x.evenings(1);
        due.is("with those that came and saw", x.whoWent(0), 0b1111);
        x.visits(0, 0);
        due.is("less one who has visited", x.whoWent(0), 0b1110);
    }

    private static void promise27spread() {
        CandleIsADebt x = Due.village("h0000; h0000; h0000; w48480; w48480; w48480; w48480; o00; o10; o11");
        due.is("owe nothing", x.spread(0), 0b1100);
        due.is("owed by just one", x.spread(1), 0b010);
        Due.tell(x, "o32;");
        due.is("owe nothing then", x.spread(0), 0b0100);
        due.is("owed by just one then", x.spread(1), 0b110);
    }

    private static CandleIsADebt rows(CandleIsADebt x, int... numbers) {
        x.empties();
        for (int v : numbers) x.row(v);
        return x;
    }

    private static void promise28whatKind() {
        // He comes along row 0 from column 0 to 6, where the house stands: 5, 4, 3, 2, 1, 0 off, then stays.
        CandleIsADebt x = Due.village("h0306; w00062");
        due.is("an empty row: any kind", x.whatKind(0, 0, 0), 0b111111);
        due.is("an empty row: any figure", x.whatKind(0, 0, 1), 0b1111111111);
        // Of figure 3 the reaches are 2, 3, 0, 3, 1, 5.
        due.is("seen behind 4: the candle", rows(x, 99, 99, 99, 99, 0).whatKind(0, 0, 0), 0b000001);
        due.is("a candle of any figure", x.whatKind(0, 0, 1), 0b1111111111);
        due.is("behind 3: a two, a moor", rows(x, 99, 99, 99, 0, 1, 2).whatKind(0, 0, 0), 0b001010);
        due.is("no candle", x.whatKind(0, 0, 1), 0);
        due.is("not behind 3: a candle, a curtain, a lodger", rows(x, 99, 99, 99, 99).whatKind(0, 0, 0), 0b010101);
        due.is("behind 1: a train", rows(x, 99, 0).whatKind(0, 0, 0), 0b100000);
        due.is("it is not owed now", rows(x, 0).whatKind(0, 0, 0), 0);
        due.is("a wrong age later", rows(x, 99, 0, 1, 3).whatKind(0, 0, 0), 0);
        due.is("the row stays", x.count(6), 4);
        due.is("nothing has changed", x.houseOf(0, 0), 0);
        CandleIsADebt moor = Due.village("h3306; w00062");
        due.is("a moor seen from 3 off: figures 2 and 3", rows(moor, 99, 99, 99, 0).whatKind(0, 0, 1), 0b1100);
        due.is("kinds of figure 3", moor.whatKind(0, 0, 0), 0b001010);
        moor.lights(0);
        due.is("dark: none is seen", moor.whatKind(0, 0, 1), 0);
        due.is("dark: never owed", rows(moor, 99, 99, 99, 99, 99, 99, 99).whatKind(0, 0, 0), 0b111111);
        CandleIsADebt half = Due.village("h3906; w00061");
        due.is("half of 6 is 3: figures 8 and 9", rows(half, 99, 99, 99, 0).whatKind(0, 0, 1), 0b1100000000);
        due.is("half of a train's 8 is 4", rows(half, 99, 99, 0).whatKind(0, 0, 0), 0b100000);
        CandleIsADebt owed = Due.village("h0006; w00000; o00; e60; e38");
        due.is("98 now", rows(owed, 98).whatKind(0, 0, 0), 0b111111);
        due.is("99 tells that it is not owed, and it is", rows(owed, 98, 99).whatKind(0, 0, 0), 0);
    }

    private static void mist(CandleIsADebt x, int n, int t, long above, long below) {
        due.is("behind " + n + ", 1 in " + t + ": above", x.mist(0, 0, n, t, 0), above);
        due.is("behind " + n + ", 1 in " + t + ": below", x.mist(0, 0, n, t, 1), below);
    }

    private static void promise30mist() {
        // He comes along row 0 towards the candle in column 6, and sees it in the evenings 4, 5, ..
        CandleIsADebt x = Due.village("h0006; w00062; w00000; o10");
        mist(x, 0, 2, 0, 1);
        mist(x, 3, 2, 0, 1);
        mist(x, 4, 2, 1, 2);
        mist(x, 5, 3, 8, 9);
        mist(x, 7, 20, 159999, 160000);
        due.is("owed already: above", x.mist(1, 0, 7, 20, 0), 1);
        due.is("owed already: below", x.mist(1, 0, 0, 2, 1), 1);
        mist(Due.village("h0000; w00002"), 7, 20, 1279999999L, 1280000000L);
        mist(Due.village("h0000; w00000"), 7, 2, 0, 1);
        mist(Due.village("h0000; l0; w00002"), 7, 2, 0, 1);
        // He passes a candle: sees it in the evenings 1 to 4 (columns 1 to 4 of it in 2), no more in the fifth.
        mist(Due.village("h0002; w00062"), 7, 10, 9999, 10000);
    }
}
