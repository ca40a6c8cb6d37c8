import java.util.function.IntConsumer;

/** The boundary cases of promises 1 to 5; the remark of a test quotes the sentence that it holds. */
final class ArrivalBoundsTest {
    private static final int LEAST = Integer.MIN_VALUE, MOST = Integer.MAX_VALUE;

    public static void main(String[] args) {
        aBareRoadsteadHasNumbersOfNothing();
        aBareRoadsteadRefusesOrders();
        coalIs0To20000();
        coalOutOfRangeIsRefused();
        thirdHulkIsMooredAndFourthRefused();
        hulksAreNumberedFrom0();
        holdIs20To500();
        holdOutOfRangeIsRefused();
        lighterIsRefusedWithoutAHulk();
        sixthLighterComesAndSeventhIsRefused();
        lighterLiesAtTheHulk0WhenItComes();
        menAre1To20();
        menOutOfRangeAreRefused();
        sixthGangIsHiredAndSeventhRefused();
        gangIsHiredRested();
        wantIs1To9999AndPatience1To500();
        wantOrPatienceOutOfRangeIsRefused();
        eighthWaitsOutsideAndNinthIsRefused();
        thoseAtBuoysAreNotOutside();
        thoseWhoLeftAreNotOutside();
        buoysAreTakenByTheHourAlone();
        steamersAreNumberedAsTheyArrive();
        refusedArrivalsTakeNoNumber();
        Checks.end();
    }

    private static void each(int[] values, IntConsumer check) {
        for (int value : values) {
            check.accept(value);
        }
    }

    /** 1: "A bare roadstead." */
    private static void aBareRoadsteadHasNumbersOfNothing() {
        each(new int[] {0, 1, -1, 3, 6, LEAST, MOST}, i -> {
            Untouched.byNumber("bare: coalIn(" + i + ")", CoalHulks::new, x -> x.coalIn(i));
            Untouched.byNumber("bare: placeOf(" + i + ")", CoalHulks::new, x -> x.placeOf(i));
            Untouched.byNumber("bare: loadOf(" + i + ")", CoalHulks::new, x -> x.loadOf(i));
            Untouched.byNumber("bare: dustIn(" + i + ")", CoalHulks::new, x -> x.dustIn(i));
            Untouched.byNumber("bare: gangOn(" + i + ")", CoalHulks::new, x -> x.gangOn(i));
            Untouched.byNumber("bare: restOf(" + i + ")", CoalHulks::new, x -> x.restOf(i));
            Untouched.byNumber("bare: fateOf(" + i + ")", CoalHulks::new, x -> x.fateOf(i));
            Untouched.byNumber("bare: wantOf(" + i + ")", CoalHulks::new, x -> x.wantOf(i));
        });
        CoalHulks x = new CoalHulks();
        Checks.due("bare: clock", x.clock(), 0);
        Checks.due("bare: delivered", x.delivered(), 0);
        Checks.due("bare: outside(0)", x.outside(0), -1);
        Checks.due("bare: outside(most int)", x.outside(MOST), -1);
        Checks.due("bare: an hour", x.hours(1), 0);
        Checks.due("bare: 500 hours", x.hours(500), 0);
        Checks.due("bare: clock then", x.clock(), 501);
    }

    /** 1: "A bare roadstead.": nothing that could be ordered, shifted or swept. */
    private static void aBareRoadsteadRefusesOrders() {
        Untouched.byNumber("bare: order(0, 0, 0)", CoalHulks::new, x -> x.order(0, 0, 0));
        Untouched.byNumber("bare: shift(0, 0)", CoalHulks::new, x -> x.shift(0, 0));
        Untouched.byNumber("bare: sweep(0, 0)", CoalHulks::new, x -> x.sweep(0, 0));
        Untouched.byState("bare: lighter(20)", CoalHulks::new, x -> x.lighter(20));
    }

    /** 2: "coal: 0 to 20000". */
    private static void coalIs0To20000() {
        each(new int[] {0, 1, 19999, 20000}, coal -> {
            CoalHulks x = new CoalHulks();
            Checks.due("hulk(" + coal + ")", x.hulk(coal), 0);
            Checks.due("coalIn behind hulk(" + coal + ")", x.coalIn(0), coal);
        });
    }

    /** 2: "Throws IllegalArgumentException if coal is out of range". */
    private static void coalOutOfRangeIsRefused() {
        each(new int[] {-1, 20001, -20000, LEAST, MOST, LEAST + 1}, coal -> {
            Untouched.byRange("hulk(" + coal + ")", CoalHulks::new, x -> x.hulk(coal));
            Untouched.byRange("hulk(" + coal + ") as the third", Stations::busy, x -> x.hulk(coal));
        });
    }

    /** 2: "Throws IllegalStateException if there are 3"; Terms: "There are up to 3 hulks". */
    private static void thirdHulkIsMooredAndFourthRefused() {
        CoalHulks x = Stations.busy();
        Checks.due("the third hulk", x.hulk(20000), 2);
        Checks.refusedState("the fourth", () -> x.hulk(20000));
        Untouched.byState("hulk(0) as the fourth", Stations::full, y -> y.hulk(0));
        Untouched.byState("hulk(20000) as the fourth", Stations::full, y -> y.hulk(20000));
        CoalHulks emptied = new CoalHulks();
        emptied.hulk(0);
        emptied.hulk(0);
        emptied.hulk(0);
        Checks.refusedState("empty hulks are three, too", () -> emptied.hulk(1));
    }

    /** Terms: "each numbered from 0 as they come"; 2: "Returns its number." */
    private static void hulksAreNumberedFrom0() {
        CoalHulks x = new CoalHulks();
        for (int i = 0; i < 3; i++) {
            int next = i;
            Checks.refusedNumber("coalIn before it comes", () -> x.coalIn(next));
            Checks.due("hulk", x.hulk(100 + i), i);
            Checks.due("coalIn", x.coalIn(i), 100 + i);
        }
        Checks.refusedNumber("coalIn(3)", () -> x.coalIn(3));
        Checks.due("the first keeps its coal", x.coalIn(0), 100);
    }

    private static CoalHulks oneHulk() {
        CoalHulks x = new CoalHulks();
        x.hulk(700);
        return x;
    }

    /** 3: "hold: 20 to 500"; a hold of n is full at n. */
    private static void holdIs20To500() {
        each(new int[] {20, 21, 499, 500}, hold -> {
            CoalHulks x = oneHulk();
            Checks.due("lighter(" + hold + ")", x.lighter(hold), 0);
            x.gang(10);
            x.steamer(9999, 500);
            x.order(0, 0, 0);
            for (int i = 0; i < 20 && x.placeOf(0) == CoalHulks.AT_HULK; i++) {
                x.hours(1);
            }
            Checks.due("casts off with its hold full", x.loadOf(0), hold);
            Checks.due("nothing lost", x.coalIn(0), 700 - hold);
        });
    }

    /** 3: "Throws IllegalArgumentException if hold is out of range". */
    private static void holdOutOfRangeIsRefused() {
        each(new int[] {19, 501, 0, -20, -1, LEAST, MOST}, hold -> {
            Untouched.byRange("lighter(" + hold + ")", ArrivalBoundsTest::oneHulk, x -> x.lighter(hold));
            Untouched.byRange("lighter(" + hold + ") as the sixth", Stations::busy, x -> x.lighter(hold));
        });
    }

    /** 3: "Throws IllegalStateException if [..] there is no hulk"; an empty one will do. */
    private static void lighterIsRefusedWithoutAHulk() {
        Untouched.byState("lighter(20) without a hulk", CoalHulks::new, x -> x.lighter(20));
        Untouched.byState("lighter(500) without a hulk", CoalHulks::new, x -> x.lighter(500));
        CoalHulks x = new CoalHulks();
        x.hulk(0);
        Checks.due("lighter at an empty hulk", x.lighter(20), 0);
    }

    /** 3: "Throws IllegalStateException if there are 6"; Terms: "up to [..] 6 lighters". */
    private static void sixthLighterComesAndSeventhIsRefused() {
        CoalHulks x = Stations.busy();
        Checks.due("the sixth lighter", x.lighter(20), 5);
        Checks.refusedState("the seventh", () -> x.lighter(20));
        Untouched.byState("lighter(20) as the seventh", Stations::full, y -> y.lighter(20));
        Untouched.byState("lighter(500) as the seventh", Stations::full, y -> y.lighter(500));
    }

    /** Terms: "lies at a hulk (at the hulk 0 when it comes)", with a load and dust of 0. */
    private static void lighterLiesAtTheHulk0WhenItComes() {
        CoalHulks x = new CoalHulks();
        x.hulk(50);
        x.hulk(60);
        x.hulk(70);
        Checks.due("lighter", x.lighter(20), 0);
        Checks.due("place", x.placeOf(0), CoalHulks.AT_HULK);
        Checks.due("load", x.loadOf(0), 0);
        Checks.due("dust", x.dustIn(0), 0);
        Checks.due("gang", x.gangOn(0), -1);
        x.gang(20);
        x.steamer(100, 100);
        x.order(0, 0, 0);
        x.hours(1);
        Checks.due("from the hulk 0", x.coalIn(0), 30);
        Checks.due("not from the hulk 1", x.coalIn(1), 60);
        Checks.due("not from the hulk 2", x.coalIn(2), 70);
    }

    /** 4: "men: 1 to 20"; Terms: "A gang of n men shovels in an hour 4 n hundredweights". */
    private static void menAre1To20() {
        each(new int[] {1, 2, 12, 19, 20}, men -> {
            CoalHulks x = oneHulk();
            x.lighter(500);
            Checks.due("gang(" + men + ")", x.gang(men), 0);
            x.steamer(9999, 500);
            x.order(0, 0, 0);
            x.hours(1);
            Checks.due("shovelled by " + men, 700 - x.coalIn(0), 4 * men);
        });
    }

    /** 4: "Throws IllegalArgumentException if men is out of range". */
    private static void menOutOfRangeAreRefused() {
        each(new int[] {0, 21, -1, -20, LEAST, MOST}, men -> {
            Untouched.byRange("gang(" + men + ")", CoalHulks::new, x -> x.gang(men));
            Untouched.byRange("gang(" + men + ") as the sixth", Stations::busy, x -> x.gang(men));
        });
    }

    /** 4: "Throws IllegalStateException if there are 6"; Terms: "up to [..] 6 gangs". */
    private static void sixthGangIsHiredAndSeventhRefused() {
        CoalHulks x = Stations.busy();
        Checks.due("the sixth gang", x.gang(20), 5);
        Checks.refusedState("the seventh", () -> x.gang(20));
        Untouched.byState("gang(1) as the seventh", Stations::full, y -> y.gang(1));
        Untouched.byState("gang(20) as the seventh", Stations::full, y -> y.gang(20));
    }

    /** 4: "Hires a gang, rested.": it can be ordered at once, and counts from 0. */
    private static void gangIsHiredRested() {
        CoalHulks x = oneHulk();
        x.hours(9);
        x.lighter(500);
        x.gang(1);
        Checks.due("restOf", x.restOf(0), 0);
        x.steamer(9, 7);
        x.order(0, 0, 0);
        x.hours(7);
        Checks.due("7 hours are the first it counts", x.restOf(0), 0);
    }

    /** 5: "want: 1 to 9999", "patience: 1 to 500 hours". */
    private static void wantIs1To9999AndPatience1To500() {
        int[][] pairs = {{1, 1}, {1, 500}, {9999, 1}, {9999, 500}, {9998, 499}, {2, 2}};
        for (int[] pair : pairs) {
            CoalHulks x = new CoalHulks();
            Checks.due("steamer" + pair[0] + ", " + pair[1], x.steamer(pair[0], pair[1]), 0);
            Checks.due("wantOf", x.wantOf(0), pair[0]);
            Checks.due("fateOf", x.fateOf(0), CoalHulks.OUTSIDE);
            if (pair[1] > 1) {
                Checks.due("before her last hour", x.hours(pair[1] - 1), 0);
            }
            Checks.due("her last hour", x.hours(1), 1);
        }
    }

    /** 5: "Throws IllegalArgumentException if want or patience is out of range". */
    private static void wantOrPatienceOutOfRangeIsRefused() {
        each(new int[] {0, 10000, -1, -9999, LEAST, MOST}, want -> {
            Untouched.byRange("steamer(" + want + ", 1)", CoalHulks::new, x -> x.steamer(want, 1));
            Untouched.byRange("steamer(" + want + ", 500)", Stations::busy, x -> x.steamer(want, 500));
        });
        each(new int[] {0, 501, -1, -500, LEAST, MOST}, patience -> {
            Untouched.byRange("steamer(1, " + patience + ")", CoalHulks::new, x -> x.steamer(1, patience));
            Untouched.byRange("steamer(9999, " + patience + ")", Stations::busy, x -> x.steamer(9999, patience));
        });
        Untouched.byRange("steamer(0, 0)", Stations::busy, x -> x.steamer(0, 0));
        Untouched.byRange("steamer(10000, 501)", Stations::busy, x -> x.steamer(10000, 501));
    }

    private static CoalHulks eightOutside() {
        CoalHulks x = new CoalHulks();
        for (int i = 0; i < 8; i++) {
            x.steamer(10, 3 + i);
        }
        return x;
    }

    /** 5: "Throws IllegalStateException if 8 wait outside". */
    private static void eighthWaitsOutsideAndNinthIsRefused() {
        CoalHulks x = new CoalHulks();
        for (int i = 0; i < 7; i++) {
            x.steamer(10, 20);
        }
        Checks.due("the eighth", x.steamer(10, 20), 7);
        Checks.refusedState("the ninth", () -> x.steamer(10, 20));
        Untouched.byState("steamer(1, 1) as the ninth", ArrivalBoundsTest::eightOutside, y -> y.steamer(1, 1));
        Untouched.byState("steamer(9999, 500) as the ninth outside", Stations::full, y -> y.steamer(9999, 500));
    }

    /** 5: "if 8 wait outside"; Terms: "Two steamers can lie at the buoys; the others wait outside." */
    private static void thoseAtBuoysAreNotOutside() {
        CoalHulks x = eightOutside();
        x.hours(1);
        Checks.due("six outside: a seventh", x.steamer(10, 20), 8);
        Checks.due("an eighth", x.steamer(10, 20), 9);
        Checks.refusedState("no ninth", () -> x.steamer(10, 20));
        Checks.due("the last outside", x.outside(7), 9);
        Checks.due("no more", x.outside(8), -1);
    }

    /** 5: "if 8 wait outside": who has left from outside waits no more. */
    private static void thoseWhoLeftAreNotOutside() {
        CoalHulks x = new CoalHulks();
        for (int i = 0; i < 10; i++) {
            x.steamer(10, i == 5 ? 2 : 20);
            if (i == 1) {
                x.hours(1);
            }
        }
        Checks.refusedState("8 outside, 2 at buoys", () -> x.steamer(10, 20));
        Checks.due("none leaves", x.hours(1), 0);
        Checks.refusedState("still 8", () -> x.steamer(10, 20));
        Checks.due("one leaves from outside", x.hours(1), 1);
        Checks.due("her place is free", x.steamer(10, 20), 10);
        Checks.refusedState("and taken", () -> x.steamer(10, 20));
    }

    /** 5: "A steamer arrives, and waits outside.", though both buoys are free, until an hour begins. */
    private static void buoysAreTakenByTheHourAlone() {
        CoalHulks x = new CoalHulks();
        for (int i = 0; i < 3; i++) {
            x.steamer(10, 20);
            Checks.due("fate as she arrives", x.fateOf(i), CoalHulks.OUTSIDE);
            Checks.due("her place in the row", x.outside(i), i);
        }
        x.hours(1);
        Checks.due("the first", x.fateOf(0), CoalHulks.AT_BUOY);
        Checks.due("the second", x.fateOf(1), CoalHulks.AT_BUOY);
        Checks.due("the third", x.fateOf(2), CoalHulks.OUTSIDE);
    }

    /** Terms: "steamers are numbered from 0 as they arrive", those who have left among them. */
    private static void steamersAreNumberedAsTheyArrive() {
        CoalHulks x = new CoalHulks();
        for (int i = 0; i < 40; i++) {
            int next = i;
            Checks.refusedNumber("fateOf before she arrives", () -> x.fateOf(next));
            Checks.due("steamer", x.steamer(i + 1, 1), i);
            Checks.due("fateOf", x.fateOf(i), CoalHulks.OUTSIDE);
            Checks.due("she leaves", x.hours(1), 1);
        }
        for (int i = 0; i < 40; i++) {
            Checks.due("fateOf", x.fateOf(i), CoalHulks.GONE_SHORT);
            Checks.due("wantOf", x.wantOf(i), i + 1);
        }
    }

    /** 2 to 5: "Returns its number": a refused call uses none up. */
    private static void refusedArrivalsTakeNoNumber() {
        CoalHulks x = new CoalHulks();
        Checks.refusedState("lighter", () -> x.lighter(20));
        Checks.refusedRange("hulk", () -> x.hulk(-1));
        Checks.due("hulk", x.hulk(1), 0);
        Checks.refusedRange("lighter", () -> x.lighter(19));
        Checks.due("lighter", x.lighter(20), 0);
        Checks.refusedRange("gang", () -> x.gang(0));
        Checks.due("gang", x.gang(1), 0);
        Checks.refusedRange("steamer", () -> x.steamer(1, 0));
        Checks.due("steamer", x.steamer(1, 1), 0);
        Checks.due("outside(1)", x.outside(1), -1);
    }
}
