/** Promises 31 to 33, 35, 37, 39 and 46: what there is to be told of all. */
public final class ViewsTest {
    private static final Due due = new Due();

    public static void main(String[] args) {
        promise31oldest();
        promise32mean();
        promise33forgiven();
        promise35allSeen();
        promise37blind();
        promise39street();
        promise46count();
        due.end();
    }

    private static void promise31oldest() {
        CandleIsADebt x = Due.village("h0024; h1026; h2031; h0045; w00000; w00000; w00000");
        due.is("none: age", x.oldest(0), 0);
        due.is("none: by whom", x.oldest(1), -9);
        due.is("two of 24 and 26, 24 and 31, not 26 and 31, 31 and 45", x.oldest(2), 3);
        due.is("dark: none", x.oldest(3), 0);
        Due.tell(x, "o20;");
        due.is("an age of 0", x.oldest(0), 0);
        due.is("by whom", x.oldest(1), 2);
        Due.tell(x, "e04;o01;o11;");
        due.is("the longest", x.oldest(0), 4);
        due.is("still by him", x.oldest(1), 2);
        x.trades(0, 2, 1);
        due.is("by whom then", x.oldest(1), 1);
        Due.tell(x, "e60;e60;");
        due.is("99, whoever: the first", x.oldest(1), 0);
        x.lights(2);
        due.is("a dark one is in no two", x.oldest(2), 1);
        due.is("dark", x.oldest(3), 0b0100);
        x.lights(0);
        due.is("dark then", x.oldest(3), 0b0101);
        due.is("in the same cell", Due.village("h0000; h0000; h0000").oldest(2), 3);
    }

    private static void promise32mean() {
        CandleIsADebt x = new CandleIsADebt();
        due.is("of none: above", x.mean(0), 0);
        due.is("of none: below", x.mean(1), 1);
        x = Due.village("h0500; h0000; w48480; w48480; w48480; w48480");
        due.is("0: above", x.mean(0), 0);
        due.is("0: below", x.mean(1), 1);
        Due.tell(x, "o00;");
        due.is("10 over 4: above", x.mean(0), 5);
        due.is("10 over 4: below", x.mean(1), 2);
        Due.tell(x, "o11;");
        due.is("15 over 4: above", x.mean(0), 15);
        due.is("15 over 4: below", x.mean(1), 4);
        Due.tell(x, "o21;");
        due.is("20 over 4: above", x.mean(0), 5);
        due.is("20 over 4: below", x.mean(1), 1);
        CandleIsADebt six = Due.village("h0300; h3300; w48480; w48480; w48480; w48480; w48480; w48480; o00; o11");
        due.is("36 over 6: above", six.mean(0), 6);
        due.is("36 over 6: below", six.mean(1), 1);
        due.is("another part", six.mean(2), 4000000000000000002L);
        due.is("another part", six.mean(-1), 4000000000000000002L);
        due.is("counted", six.count(12), 2);
    }

    private static void promise33forgiven() {
        CandleIsADebt x = Due.village("h0000; h4000; h5000; w48480; w48480; o00; o01");
        due.is("as young", x.forgiven(), 0);
        Due.tell(x, "e07;o12;");
        due.is("a lodger's 7", x.forgiven(), 7);
        Due.tell(x, "e03;");
        due.is("a lodger's 10, a train's 6", x.forgiven(), 16);
        due.is("nothing has changed", x.count(4), 5 + 12 + 31);
    }

    private static void promise35allSeen() {
        CandleIsADebt x = Due.village("h0024; h1000; h2010; h3724; h4006; h5900; h0000");
        int[] cells = {13, 10, 1, 45, 3, 39, 6};
        for (int h = 0; h < 7; h++) due.is("house " + h, x.allSeen(h), cells[h]);
        x.lights(0);
        due.is("a dark one, too", x.allSeen(0), 13);
    }

    private static void promise37blind() {
        CandleIsADebt x = Due.village("h0024; w24240; w24242; w22221; w22222; w00002");
        due.is("blind, half 2 off, far", x.blind(), 0b10101);
        x.lights(0);
        due.is("all in the dark", x.blind(), 0b11111);
        due.is("nobody", new CandleIsADebt().blind(), 0);
    }

    private static void promise39street() {
        CandleIsADebt x = Due.village("h0000; h1006; h5007; h0048; w24240; w24240; o00; o01; o11; o02; e04; o03");
        due.is("row 0: 5, 10, 10", x.street(0), 25);
        due.is("row 1: 25 and 8", x.street(1), 33);
        due.is("row 2", x.street(2), 0);
        due.is("row 6", x.street(6), 5);
        due.is("row 7", x.street(7), -1);
        due.is("row -1", x.street(-1), -1);
    }

    private static void promise46count() {
        CandleIsADebt x = Due.village("h0000; h4000; w48480; w48480; w48480; o00; o01; o11; e03");
        x.feed(5);
        x.feed(300);
        x.row(1);
        x.row(2);
        x.row(-1);
        x.row(-1);
        x.lights(0);
        x.lights(9);
        x.spread(2);
        x.spread(2);
        x.spread(2);
        for (int i = 0; i < 5; i++) x.restore();
        int[] counts = {2, 3, 3, 3, 5 + 5 + 5, 1, 2, 1, -9, -9, -9, 1, 3, 5, 2, 0, 1, -9};
        for (int what = 0; what < counts.length; what++) due.is("count(" + what + ")", x.count(what), counts[what]);
        due.is("count(-1)", x.count(-1), -9);
        due.is("count of the greatest", x.count(Integer.MAX_VALUE), -9);
        due.is("count of the least", x.count(Integer.MIN_VALUE), -9);
        due.is("another what is no refusal", x.count(12), 3);
    }
}
