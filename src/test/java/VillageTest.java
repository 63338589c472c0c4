/** Promises 2 and 3: letters, and the villages that they tell. */
public final class VillageTest {
    private static final Due due = new Due();

    public static void main(String[] args) {
        promise2feed();
        promise3whatEachStatementDoes();
        promise3misspelt();
        promise3notAsItMustBe();
        promise3behindAllAhead();
        promise3allOrNothing();
        due.end();
    }

    private static void promise2feed() {
        CandleIsADebt x = new CandleIsADebt();
        due.is("below", x.feed(-1), -4);
        due.is("above", x.feed(256), -6);
        due.is("the least", x.feed(0), 1);
        due.is("the greatest", x.feed(255), 2);
        for (int i = 3; i <= 96; i++) due.is("letter", x.feed('a'), i);
        due.is("no room", x.feed('a'), -6);
        due.is("no room, but below", x.feed(-1), -4);
        due.is("letters", x.count(5), 96);
        due.is("a fault", x.village(), -1000);
        due.is("letters are no more", x.count(5), 0);
        due.is("nothing more is counted", x.count(14) + x.count(16), 4);
    }

    private static void promise3whatEachStatementDoes() {
        CandleIsADebt x = new CandleIsADebt();
        due.is("a house", Due.tell(x, "h5948;"), 1);
        due.is("kind", x.houseOf(0, 0), 5);
        due.is("figure", x.houseOf(0, 1), 9);
        due.is("cell", x.houseOf(0, 2), 48);
        due.is("lit", x.houseOf(0, 3), 1);
        due.is("a walker", Due.tell(x, "w47062;"), 1);
        due.is("at", x.walkerOf(0, 0), 47);
        due.is("goal", x.walkerOf(0, 1), 6);
        due.is("sight", x.walkerOf(0, 2), 2);
        due.is("a light", Due.tell(x, "l0;"), 1);
        due.is("dark", x.houseOf(0, 3), 0);
        due.is("twice", Due.tell(x, "l0;l0;"), 2);
        due.is("dark still", x.houseOf(0, 3), 0);
        due.is("a goal", Due.tell(x, "g042;"), 1);
        due.is("goal then", x.walkerOf(0, 1), 42);
        due.is("a debt", Due.tell(x, "o00;"), 1);
        due.is("age", x.age(0, 0), 0);
        due.is("evenings", Due.tell(x, "e03;"), 1);
        due.is("evening", x.count(2), 3);
        due.is("at then", x.walkerOf(0, 0), 44);
        due.is("age then", x.age(0, 0), 3);
        due.is("owed already", Due.tell(x, "o00;"), 1);
        due.is("as he does", x.age(0, 0), 3);
        due.is("letters are no more", x.count(5), 0);
    }

    private static void promise3misspelt() {
        String[] texts = {"", "x", ";", "h", "h0", "h00", "h000", "h0000", "h00000", "h0000;x", "h0000;;", "hx000;",
            "h0x00;", "h000x;", "w", "w0000", "w00000", "w00000x", "w000000", "l", "l;", "l0", "l00", "g00;", "g000",
            "o0;", "o00", "o000", "e0;", "e00", "e001;", "h0000;e", "H0000;", "h0000 ;", "h00:0;", "h00/0;", "e01;l"};
        int[] places = {0, 0, 0, 1, 2, 3, 4, 5, 5, 6, 6, 1, 2, 4, 1, 5, 6, 6, 6, 1, 1, 2, 2, 3, 4, 2, 3, 3, 2, 3, 3, 7,
            0, 5, 3, 3, 5};
        for (int i = 0; i < texts.length; i++) {
            CandleIsADebt x = new CandleIsADebt();
            due.is("village of '" + texts[i] + "'", Due.tell(x, texts[i]), -1000 - places[i]);
        }
        StringBuilder long96 = new StringBuilder();
        for (int i = 0; i < 31; i++) long96.append("e01;");
        due.is("96 letters", Due.tell(new CandleIsADebt(), long96.substring(0, 96)), 24);
        due.is("cut at the end of the room", Due.tell(new CandleIsADebt(), "l0;" + long96.substring(0, 93)), -1096);
        due.is("kind 1 before kind 2", Due.tell(new CandleIsADebt(), "l0;x"), -1003);
    }

    private static void promise3notAsItMustBe() {
        String[] wrong = {"h6000;", "h9000;", "h0049;", "h0099;", "w49000;", "w00490;", "w00003;", "w00009;", "l1;", "l9;",
            "g100;", "g049;", "o10;", "o01;", "e00;", "e61;", "e99;"};
        for (String statement : wrong) {
            CandleIsADebt x = Due.village("h0000; w00000");
            due.is(statement, Due.tell(x, statement), -2000);
            due.is(statement + " behind others", Due.tell(x, "l0;e01;" + statement + "l9;"), -2007);
            due.is("nothing is counted", x.count(11) + x.count(12) + x.count(14) + x.count(16), 0);
        }
        String[] edges = {"h5948;", "h0048;", "w48482;", "l0;", "g048;", "o00;", "e01;", "e60;"};
        for (String statement : edges) due.is(statement, Due.tell(Due.village("h0000; w00000"), statement), 1);
    }

    private static void promise3behindAllAhead() {
        due.is("a house told ahead", Due.tell(new CandleIsADebt(), "h0000;l0;"), 2);
        due.is("one told behind", Due.tell(new CandleIsADebt(), "l0;h0000;"), -2000);
        due.is("both ahead", Due.tell(new CandleIsADebt(), "h0000;w00000;o00;g048;"), 4);
        due.is("a walker lacks", Due.tell(new CandleIsADebt(), "h0000;o00;w00000;"), -2006);
        String six = "h0000;h0000;h0000;h0000;h0000;h0000;";
        due.is("seven houses", Due.tell(new CandleIsADebt(), six + "h0000;"), 7);
        due.is("an eighth", Due.tell(new CandleIsADebt(), six + "h0000;h0000;"), -2042);
        CandleIsADebt x = new CandleIsADebt();
        x.house(0, 0, 0);
        due.is("an eighth with what there is", Due.tell(x, six + "h0000;"), -2036);
        String five = "w00000;w00000;w00000;w00000;w00000;";
        due.is("six walkers", Due.tell(new CandleIsADebt(), five + "w00000;"), 6);
        due.is("a seventh", Due.tell(new CandleIsADebt(), five + "w00000;w00000;"), -2042);
        String late = "e60;e60;e60;e60;e60;e60;e60;e60;e60;e60;e60;e60;e60;e60;e60;e60;";
        due.is("999 evenings", Due.tell(new CandleIsADebt(), late + "e39;"), 17);
        due.is("1000 evenings", Due.tell(new CandleIsADebt(), late + "e40;"), -2064);
        due.is("one too late", Due.tell(new CandleIsADebt(), late + "e39;e01;"), -2068);
        CandleIsADebt y = Due.village("h0000; w00000; e60; e60");
        for (int i = 0; i < 14; i++) y.evenings(60);
        due.is("late already", Due.tell(y, "e39;e01;"), -2004);
    }

    private static void promise3allOrNothing() {
        CandleIsADebt x = new CandleIsADebt();
        due.is("a fault at the end", Due.tell(x, "h0000;w00002;o00;e05;l0;l7;"), -2024);
        for (int what = 0; what <= 7; what++) due.is("nothing came of it", x.count(what), 0);
        due.is("without it", Due.tell(x, "h0000;w00002;o00;e05;l0;"), 5);
        due.is("houses", x.count(0), 1);
        due.is("walkers", x.count(1), 1);
        due.is("evening", x.count(2), 5);
        due.is("age", x.age(0, 0), 5);
        due.is("dark", x.oldest(3), 1);
    }
}
