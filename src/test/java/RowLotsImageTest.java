/** Promises 40 to 45: told debts, years by lot, an image. */
public final class RowLotsImageTest {
    private static final Due due = new Due();

    public static void main(String[] args) {
        promise40row();
        promise41judge();
        promise42empties();
        promise43lots();
        promise44and45image();
        due.end();
    }

    private static void promise40row() {
        CandleIsADebt x = new CandleIsADebt();
        due.is("below", x.row(-1), -4);
        due.is("above", x.row(100), -6);
        due.is("the least", x.row(0), 1);
        due.is("the greatest", x.row(99), 2);
        for (int i = 3; i <= 12; i++) due.is("number", x.row(i), i);
        due.is("no room", x.row(1), -6);
        due.is("below, and no room", x.row(-1), -4);
        due.is("numbers", x.count(6), 12);
    }

    private static int judged(CandleIsADebt x, int... numbers) {
        for (int v : numbers) x.row(v);
        return x.judge();
    }

    private static void promise41judge() {
        CandleIsADebt x = Due.village("h0000; h0000; h0000; w48480; w48480; o00; o10; o11");
        due.is("none told", x.judge(), -9);
        due.is("all is so", judged(x, 2, 1, 0), -9);
        due.is("the row has none then", x.count(6), 0);
        due.is("as far as it goes", judged(x, 2, 1), -9);
        due.is("the first is not", judged(x, 1, 1, 1), 0);
        due.is("the row has none then either", x.count(6), 0);
        due.is("the last is not", judged(x, 2, 1, 1), 2);
        due.is("none there", judged(x, 2, 1, 0, 0), 3);
        due.is("none there, not so ahead", judged(x, 2, 0, 0, 0), 1);
        due.is("no house at all", judged(new CandleIsADebt(), 0), 0);
        due.is("twelve told", judged(x, 2, 1, 0, 0, 0, 0, 0, 0, 0, 0, 0, 0), 3);
    }

    private static void promise42empties() {
        CandleIsADebt x = new CandleIsADebt();
        due.is("none", x.empties(), 0);
        x.row(4);
        x.row(5);
        due.is("two", x.empties(), 2);
        due.is("none then", x.empties(), 0);
        due.is("counted", x.count(6), 0);
    }

    private static void promise43lots() {
        // Seed 1 gives 16838, 5758, 10113, 17515, 31051, 5627, ..: below 49 these are 31, 25, 19, 22, 34, 41.
        // Walker 0 goes from 31 to 25, walker 1 from 19 by 26, 25, 24, 23 to 22.
        CandleIsADebt x = Due.village("h2025; h2022; h2040; w00002; w00002");
        due.is("one owes a curtain, the other two", x.lots(1, 1, 0), 3);
        due.is("prices", x.lots(1, 1, 1), 6);
        due.is("nothing has changed", x.count(3) + x.count(2) + x.walkerOf(0, 0), 0);
        // With one walker the years are 31 to 25, 19 to 22, 34 to 41.
        CandleIsADebt y = Due.village("h4041; h2022; w00002");
        due.is("in the first year nothing", y.lots(1, 1, 0), 0);
        due.is("in the second the curtain", y.lots(2, 1, 0), 1);
        due.is("in the third the lodger", y.lots(3, 1, 0), 2);
        due.is("2 and 2, and 11 evenings: 34 is 1 off, he goes to 41 and sees it in the first", y.lots(3, 1, 1), 2 + 2 + 11);
        Due.tell(y, "o00;");
        y.evenings(3);
        due.is("each year is from now: 1, 2, 1 are owed", y.lots(3, 1, 0), 4);
        due.is("each time 2 and 15", y.lots(3, 1, 1), 3 * 17 + 2);
        due.is("20 years", y.lots(20, 1, 0) >= 20 ? 1 : 0, 1);
        due.is("a seed below 0 is one as well", new CandleIsADebt().lots(20, -7, 1), 0);
    }

    private static void promise44and45image() {
        CandleIsADebt x = Due.village("h0000; h3945; w00482; e02");
        due.is("there is none", x.restore(), -3);
        due.is("image", x.image(), 2);
        x.lights(1);
        x.goals(0, 3);
        Due.tell(x, "o01;h1111;w00000;e05;");
        x.feed('h');
        x.row(7);
        x.house(6, 0, 0);
        x.lights(0);
        due.is("restored", x.restore(), 2);
        due.is("houses", x.count(0), 2);
        due.is("walkers", x.count(1), 1);
        due.is("evening", x.count(2), 2);
        due.is("lit", x.oldest(3), 0);
        due.is("goal", x.walkerOf(0, 1), 48);
        due.is("at", x.walkerOf(0, 0), 14);
        due.is("owes", x.walkerOf(0, 3), 1);
        due.is("age", x.age(0, 0), 1);
        due.is("letters stay", x.count(5), 1);
        due.is("the row stays", x.count(6), 1);
        due.is("refusals stay", x.count(12), 1);
        due.is("nothing can be taken back", x.count(7), 0);
        x.evenings(9);
        due.is("it stays", x.restore(), 2);
        x.evenings(1);
        due.is("another image", x.image(), 3);
        x.evenings(1);
        x.back();
        due.is("of which nothing is taken back", x.restore(), 3);
        CandleIsADebt bare = new CandleIsADebt();
        bare.image();
        bare.house(0, 0, 0);
        due.is("of a new object, too", bare.restore(), 0);
        due.is("no houses then", bare.count(0), 0);
    }
}
