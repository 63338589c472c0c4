/** Letters and villages, promises 2 and 3: a test for each sentence that names an edge, which stands above it. */
public final class VillageEdgesTest {
    private static final Due due = new Due();
    private static final String[] WHOLE = {"h5948;", "w48482;", "l0;", "g048;", "o00;", "e60;"};

    public static void main(String[] args) throws ReflectiveOperationException {
        Due.all(VillageEdgesTest.class);
        due.end();
    }

    private static CandleIsADebt one() {
        return Due.village("h0000; w00000");
    }

    private static String times(String text, int n) {
        return text.repeat(n);
    }

    /** "A letter comes: how many there are. -4; -6 (255; 96, too)". */
    static void lettersOf0To255() {
        CandleIsADebt x = new CandleIsADebt();
        due.is("-1", x.feed(-1), -4);
        due.is("256", x.feed(256), -6);
        due.is("none came", x.count(5), 0);
        due.is("0", x.feed(0), 1);
        due.is("255", x.feed(255), 2);
        due.is("127", x.feed(127), 3);
        due.is("128", x.feed(128), 4);
        due.is("refused -4", x.count(14), 1);
        due.is("refused -6", x.count(16), 1);
    }

    /** "told in letters, one by one (96 at most)": the 96th comes, a 97th does not, and leaves the others as they are. */
    static void ninetySixLetters() {
        CandleIsADebt x = one();
        String text = times("e01;", 24);
        for (int i = 0; i < 95; i++) x.feed(text.charAt(i));
        due.is("the 96th", x.feed(';'), 96);
        due.is("a 97th", x.feed('e'), -6);
        due.is("a 97th above 255", x.feed(256), -6);
        due.is("a 97th below 0", x.feed(-1), -4);
        due.is("letters", x.count(5), 96);
        due.is("the village", x.village(), 24);
        due.is("evening", x.count(2), 24);
        due.is("there is room again", x.feed('e'), 1);
    }

    /** "STATEMENTS": one at least, and as many as 96 letters hold: 32 of three letters each. */
    static void oneTo32Statements() {
        due.is("one", Due.tell(one(), "l0;"), 1);
        CandleIsADebt x = one();
        due.is("32", Due.tell(x, times("l0;", 32)), 32);
        due.is("turned 32 times", x.houseOf(0, 3), 1);
        due.is("31", Due.tell(x, times("l0;", 31)), 31);
        due.is("turned 31 times", x.houseOf(0, 3), 0);
    }

    /** "At least one STATEMENT": none is a fault at the end, which is place 0. */
    static void noStatement() {
        CandleIsADebt x = new CandleIsADebt();
        due.is("no letters", x.village(), -1000);
        due.is("again", x.village(), -1000);
        Due.tell(x, "e01;");
        due.is("none behind a village", x.village(), -1000);
    }

    /** "the end, if something lacks": each statement, cut off behind each of its letters, alone and behind another one. */
    static void cutOff() {
        for (String statement : WHOLE) {
            for (int cut = 1; cut < statement.length(); cut++) {
                String text = statement.substring(0, cut);
                due.is(text, Due.tell(one(), text), -1000 - cut);
                due.is("e01;" + text, Due.tell(one(), "e01;" + text), -1004 - cut);
            }
            due.is(statement, Due.tell(one(), statement), 1);
        }
        String full = times("e01;", 23) + "h000";
        due.is("cut off by the end of the room", Due.tell(one(), full), -1096);
    }

    /** "the place of the first letter with which no VILLAGE can go on": each place of each statement, with letters beside the digits. */
    static void wrongLetterAtEachPlace() {
        int[] wrong = {0, ' ', '/', ':', 'h', 'x', 128, 255};
        for (String statement : WHOLE) {
            for (int place = 0; place < statement.length(); place++) {
                for (int letter : wrong) {
                    if (letter == 'h' && place == 0) continue;
                    String text = statement.substring(0, place) + (char) letter + statement.substring(place + 1);
                    due.is(text + " of " + letter, Due.tell(one(), text), -1000 - place);
                    due.is("l0;l0;" + text + " of " + letter, Due.tell(one(), "l0;l0;" + text), -1006 - place);
                }
                if (place < statement.length() - 1) {
                    String early = statement.substring(0, place) + ";";
                    due.is(early, Due.tell(one(), early), -1000 - place);
                }
            }
            String late = statement.replace(";", "0;");
            due.is(late, Due.tell(one(), late), -1000 - statement.length() + 1);
        }
        due.is("an upper case letter", Due.tell(one(), "H0000;"), -1000);
        due.is("the last of 96", Due.tell(one(), times("e01;", 23) + "e01:"), -1095);
    }

    /** "a letter": each of the 256 that can come, as a statement's first letter, its digit and its end. */
    static void eachLetterOfAll() {
        for (int letter = 0; letter <= 255; letter++) {
            char c = (char) letter;
            boolean digit = letter >= 48 && letter <= 57;
            due.is("first letter " + letter, Due.tell(one(), c + "0;"), c == 'l' ? 1 : "hwgoe".indexOf(c) < 0 ? -1000 : -1002);
            due.is("digit " + letter, Due.tell(one(), "l" + c + ";"), c == '0' ? 1 : digit ? -2000 : -1001);
            due.is("end " + letter, Due.tell(one(), "l0" + c), c == ';' ? 1 : -1002);
        }
    }

    /** "FAULT: kind 1 ..; else kind 2": a later fault of kind 1 comes before an earlier one of kind 2. */
    static void kind1BeforeKind2() {
        due.is("both", Due.tell(one(), "l9;x"), -1003);
        due.is("in one statement, cut off", Due.tell(one(), "h99"), -1003);
        due.is("at the end", Due.tell(one(), "e00;l0"), -1006);
        due.is("kind 2 alone", Due.tell(one(), "e00;l0;"), -2000);
    }

    /** "kind 2 the place of the first letter of the first STATEMENT that .. is not as it must be": of two the first. */
    static void theFirstOfTwoFaults() {
        due.is("the first", Due.tell(one(), "l0;l1;g100;"), -2003);
        due.is("the one behind it", Due.tell(one(), "l0;l0;g100;"), -2006);
        due.is("the last of 96 letters", Due.tell(one(), times("e01;", 23) + "e00;"), -2092);
    }

    /** "a number out of range": each number of each statement at its bounds and just outside of them. */
    static void numbersOutOfRange() {
        String[] in = {"h0000;", "h5000;", "h0900;", "h0048;", "w00000;", "w48000;", "w00480;", "w00002;", "g000;", "g048;",
            "e01;", "e60;"};
        String[] out = {"h6000;", "h9000;", "h0049;", "h0099;", "w49000;", "w99000;", "w00490;", "w00990;", "w00003;",
            "w00009;", "g049;", "g099;", "e00;", "e61;", "e99;"};
        for (String statement : in) due.is(statement, Due.tell(one(), statement), 1);
        for (String statement : out) due.is(statement, Due.tell(one(), statement), -2000);
    }

    /** "no such one": of the houses and walkers that there are by then. */
    static void noSuchOne() {
        String[] wrong = {"l1;", "l9;", "g100;", "g900;", "o10;", "o90;", "o01;", "o09;"};
        for (String statement : wrong) due.is(statement, Due.tell(one(), statement), -2000);
        due.is("a second house told ahead", Due.tell(one(), "h0000;l1;o01;"), 3);
        due.is("a second walker told ahead", Due.tell(one(), "w00000;g100;o10;"), 3);
        due.is("told behind", Due.tell(one(), "o11;h0000;w00000;"), -2000);
        String[] none = {"l0;", "g000;", "o00;"};
        for (String statement : none) due.is("a new object's " + statement, Due.tell(new CandleIsADebt(), statement), -2000);
        CandleIsADebt walkers = Due.village("w00000");
        due.is("a walker, but no house", Due.tell(walkers, "o00;"), -2000);
        CandleIsADebt houses = Due.village("h0000");
        due.is("a house, but no walker", Due.tell(houses, "o00;"), -2000);
    }

    /** "EVENING above 999": with all evenings ahead of it in the text, and those that have gone by. */
    static void eveningAbove999() {
        CandleIsADebt x = new CandleIsADebt();
        for (int i = 0; i < 16; i++) x.evenings(60);
        due.is("1000", Due.tell(x, "e40;"), -2000);
        due.is("999 and one more", Due.tell(x, "e38;e01;e01;"), -2008);
        due.is("nothing came of it", x.count(2), 960);
        due.is("999", Due.tell(x, "e38;e01;"), 2);
        due.is("evening", x.count(2), 999);
        due.is("1", Due.tell(x, "e01;"), -2000);
        due.is("what takes no evening", Due.tell(x, "h0000;"), 1);
    }

    /** "no room": a house above 7, a walker above 6. */
    static void noRoom() {
        CandleIsADebt x = new CandleIsADebt();
        due.is("seven houses", Due.tell(x, times("h0000;", 7)), 7);
        due.is("an eighth", Due.tell(x, "h0000;"), -2000);
        due.is("six walkers", Due.tell(x, times("w00000;", 6)), 6);
        due.is("a seventh", Due.tell(x, "l6;w00000;"), -2003);
        due.is("which left the light", x.houseOf(6, 3), 1);
        due.is("eight at once", Due.tell(new CandleIsADebt(), times("h0000;", 8)), -2042);
        due.is("seven at once", Due.tell(new CandleIsADebt(), times("w00000;", 7)), -2042);
    }

    /** "Without FAULT all of it comes, with one nothing": neither houses, walkers, lights, goals, debts nor evenings. */
    static void withAFaultNothing() {
        String[] faults = {"l9;", "x", "l0"};
        for (String fault : faults) {
            CandleIsADebt x = Due.village("h0000; h2000; w00000; o01; e05");
            due.is("a fault", Due.tell(x, "h0000;w00000;l0;g048;o00;e05;" + fault) < 0 ? 1 : 0, 1);
            due.is("houses", x.count(0), 2);
            due.is("walkers", x.count(1), 1);
            due.is("lit", x.oldest(3), 0);
            due.is("goal", x.walkerOf(0, 1), 0);
            due.is("owes", x.walkerOf(0, 3), 0b10);
            due.is("age", x.age(0, 1), 5);
            due.is("evening", x.count(2), 5);
            due.is("a new house is the third", x.house(0, 0, 0), 2);
        }
    }

    /** "The letters, which are no more then (with a FAULT neither)", "(nothing is counted)". */
    static void lettersAreNoMore() {
        CandleIsADebt x = one();
        x.lights(0);
        x.row(3);
        Due.tell(x, "x");
        due.is("a fault of kind 1: letters", x.count(5), 0);
        Due.tell(x, "l9;");
        due.is("a fault of kind 2: letters", x.count(5), 0);
        due.is("the next letter is the first", x.feed('l'), 1);
        x.feed('0');
        x.feed(';');
        for (int what = 11; what <= 16; what++) due.is("nothing is counted", x.count(what), 0);
        due.is("what can be taken back stays", x.count(7), 1);
        due.is("the row stays", x.count(6), 1);
        due.is("a village", x.village(), 1);
        due.is("its letters", x.count(5), 0);
        due.is("what can be taken back is no more", x.count(7), 0);
        due.is("the row still stays", x.count(6), 1);
    }

    /** "l a HOUSE: LIT, or, told again, dark": it turns with each telling, in one text as well. */
    static void lightsToldAgain() {
        CandleIsADebt x = one();
        due.is("once", Due.tell(x, "l0;"), 1);
        due.is("is dark", x.houseOf(0, 3), 0);
        due.is("once more", Due.tell(x, "l0;"), 1);
        due.is("is lit", x.houseOf(0, 3), 1);
        Due.tell(x, "l0;l0;l0;");
        due.is("three times", x.houseOf(0, 3), 0);
        due.is("as lights() does", x.lights(0), 1);
    }

    /** "o a WALKER, a HOUSE: he OWES it (AGE 0; as he does, if he does)". */
    static void debtsTold() {
        CandleIsADebt x = Due.village("h0000; h0048; w24240; l1");
        Due.tell(x, "o00;e07;o00;o01;");
        due.is("as he does", x.age(0, 0), 7);
        due.is("a dark house far off, by one who is blind", x.age(0, 1), 0);
        due.is("told twice", Due.tell(x, "o01;o01;"), 2);
        due.is("is owed once", x.count(3), 2);
    }

    /** "e EVENINGS (2 digits, 1 .. 60): they go by": walkers told ahead go and see, those told behind do not. */
    static void eveningsTold() {
        CandleIsADebt x = new CandleIsADebt();
        due.is("a village", Due.tell(x, "h0000;w06002;e12;w06002;h2000;e01;l0;e01;"), 8);
        due.is("the first is at home", x.walkerOf(0, 0), 0);
        due.is("saw it in the fourth of 14", x.age(0, 0), 10);
        due.is("and the curtain in the 13th", x.age(0, 1), 1);
        due.is("the second has gone two steps", x.walkerOf(1, 0), 4);
        due.is("and sees nothing", x.walkerOf(1, 3), 0);
        due.is("evening", x.count(2), 14);
    }
}
