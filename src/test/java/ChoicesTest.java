/** Promises 22 to 25 and 29: what had best be done, by those who choose. */
public final class ChoicesTest {
    private static final Due due = new Due();

    public static void main(String[] args) {
        promise22clear();
        promise23burn();
        promise24shut();
        promise25trade();
        promise29two();
        due.end();
    }

    private static void promise22clear() {
        CandleIsADebt x = Due.village("h0000; h0000; w48480; w48480; w48480; w48480; o00; o01; o10; o20");
        due.is("two owe the one alone", x.clear(0, 1), 2);
        due.is("below 0", x.clear(1, 0), -2);
        Due.tell(x, "o31;");
        due.is("less one that owes the other alone", x.clear(0, 1), 1);
        Due.tell(x, "o11;");
        due.is("who owes both counts in neither", x.clear(0, 1), 0);
        due.is("one twice", x.clear(0, 0), 1000000001);
        due.is("no such one", x.clear(2, 0), 1000000001);
        due.is("no such other", x.clear(0, -1), 1000000001);
        due.is("counted", x.count(11), 3);
    }

    private static void promise23burn() {
        CandleIsADebt none = new CandleIsADebt();
        due.is("nobody: the least cell", none.burn(30, 0), 0);
        due.is("nobody: how many", none.burn(30, 1), 0);
        // At home in 24: whole from 2 off (least cell 10), half from 1 off (least cell 17).
        due.is("whole", Due.village("w24242").burn(1, 0), 10);
        due.is("half", Due.village("w24241").burn(1, 0), 17);
        due.is("blind", Due.village("w24240").burn(1, 1), 0);
        // Two that go towards one another along row 0, from columns 0 and 6: at 1 and 5, then at 2 and 4.
        CandleIsADebt x = Due.village("w00062; w06002; w48480");
        due.is("in the first evening: within 2 of 1 and of 5 is column 3", x.burn(1, 0), 3);
        due.is("both", x.burn(1, 1), 2);
        due.is("in two evenings: 1 sees it in the first, the other from 4 in the second", x.burn(2, 0), 2);
        due.is("in four evenings: the other comes to 2", x.burn(4, 0), 0);
        due.is("in 30 evenings", x.burn(30, 0), 0);
        CandleIsADebt y = Due.village("w48002");
        due.is("from 12 off, behind 11 in cell 1", y.burn(11, 0), 0);
        due.is("behind 9 in cell 3", y.burn(9, 0), 1);
        CandleIsADebt full = Due.village("h0000; h0000; h0000; h0000; h0000; h0000; h0000; w24242");
        due.is("in mind there is room beside seven houses", full.burn(1, 0), 10);
        due.is("how many", full.burn(1, 1), 1);
        due.is("nothing has changed", full.count(0), 7);
    }

    private static void promise24shut() {
        CandleIsADebt x = Due.village("h0024; h2024; h1024; w24242");
        due.is("now nothing would be less", x.shut(0), -9);
        due.is("the two of 10 is the dearest", x.shut(1), 2);
        x.lights(2);
        due.is("a dark one is none: the candle of 5", x.shut(1), 0);
        due.is("behind 60", x.shut(60), 0);
        x.lights(0);
        x.lights(1);
        due.is("none is lit", x.shut(60), -9);
        CandleIsADebt even = Due.village("h0048; h0024; h0024; w24242");
        due.is("of two as good the least; one not seen makes nothing less", even.shut(5), 1);
        CandleIsADebt owed = Due.village("h0024; w24242; o00");
        due.is("what is owed already stays owed", owed.shut(9), -9);
        CandleIsADebt ages = Due.village("h4924; h0024; w24242");
        due.is("behind 1 both cost 7 and 5", ages.shut(1), 0);
        CandleIsADebt young = Due.village("h4024; h0024; w24242");
        due.is("2 is less than 5", young.shut(1), 1);
        due.is("behind 4: 2 and 3 is no more than 5: the least", young.shut(4), 0);
        due.is("behind 3: 2 and 2", young.shut(3), 1);
    }

    private static void promise25trade() {
        // 25 and 10 are above 30: 70. Without the 10: 25 and 10 of another.
        CandleIsADebt x = Due.village("h3000; h1000; h0000; w48480; w48480; w48480; o00; o01");
        due.is("to the first who owes nothing", x.trade(0, 1), 1);
        due.is("the 25 as well", x.trade(0, 0), 1);
        Due.tell(x, "o10;o22;");
        due.is("35 of 1 would be above 30: 2 has 15", x.trade(0, 1), 2);
        due.is("1 owes it already; 2 has 30, which is not above", x.trade(0, 0), 2);
        Due.tell(x, "o21;");
        due.is("2 owes it too, and 1 would have 35 as he has", x.trade(0, 1), -9);
        due.is("he owes it not", x.trade(0, 2), -3);
        due.is("nothing has changed", x.walkerOf(0, 3), 3);
        CandleIsADebt low = Due.village("h3000; h0000; w48480; w48480; o00; o01");
        due.is("30 is not above 30: nothing is less", low.trade(0, 1), -9);
        low.house(4, 0, 0);
        Due.tell(low, "o02;e01;");
        due.is("33 is", low.trade(0, 1), 1);
        due.is("a lodger of 3", low.trade(0, 2), 1);
        // A lodger of 2 and 3: 26 and 5 are above 30, 25 and 5 are not; of an age more 25 and 6 would be.
        CandleIsADebt aged = Due.village("h3100; h4000; h3000; w48480; w48480; o00; o01; o12; e03");
        due.is("the age goes with it", aged.trade(0, 1), 1);
        due.is("alone there is nobody", Due.village("h3900; h0000; w48480; o00; o01").trade(0, 0), -9);
    }

    private static void promise29two() {
        // In each's reach: of house 0 two walkers, of house 1 one, of house 2 none.
        CandleIsADebt x = Due.village("h0000; h0048; h0024; h0002; w00002; w01012; w48482; w24240");
        due.is("now: dark costs nothing", x.two(0, 1, 0), 11);
        due.is("two more for 1; one more for 1, which is as good", x.two(0, 1, 1), 0);
        due.is("none more for 1", x.two(0, 2, 60), 1);
        due.is("the other way round", x.two(2, 0, 60), 10);
        due.is("neither", Due.village("h0024; h0024; w00000").two(0, 1, 60), 11);
        x.lights(0);
        x.lights(2);
        due.is("as they are now makes no difference", x.two(0, 2, 60), 1);
        Due.tell(x, "o00;o10;");
        due.is("who owes it already is no more", x.two(0, 1, 5), 10);
        due.is("one twice", x.two(1, 1, 5), -1);
    }
}
