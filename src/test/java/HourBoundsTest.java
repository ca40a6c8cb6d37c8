import java.util.function.Consumer;
import java.util.function.IntSupplier;

/**
 * The boundary cases of promise 9 and of the document's terms on steamers, buoys, gangs' counts and
 * rests, and the order of an hour; the remark of a test quotes the sentence that it holds.
 */
final class HourBoundsTest {
    public static void main(String[] args) {
        hoursAre1To500();
        hoursOutOfRangeAreRefused();
        manyHoursAreAsManySingleOnes();
        hoursTellHowManyLeaveInThem();
        patienceBeginsWithTheHourBehindHerArrival();
        patienceRunsOutOutsideToo();
        sheLeavesWhenSheWantsNothing();
        filledInTheLastHourOfHerPatience();
        twoSteamersLieAtTheBuoys();
        buoysAreTakenInTheOrderOfArrival();
        twoFreeBuoysAreTakenAtOnce();
        aBuoyIsFreeFromTheNextHourOn();
        whoArrivesIsShovelledIntoInHerFirstHour();
        whenShortTheLighterTurnsBack();
        whenFilledTheLightersTurnBack();
        lightersOfOtherSteamersGoOn();
        eightHoursTireAndSevenDoNot();
        hoursAreCountedOnOverOrders();
        theHourThatEndsAnOrderCounts();
        restCountsFrom0Again();
        waitingCountsForNothing();
        aRestIs8Hours();
        Checks.end();
    }

    /** 9: "hours: 1 to 500". */
    private static void hoursAre1To500() {
        for (int hours : new int[] {1, 2, 499, 500}) {
            CoalHulks x = Stations.busy();
            Checks.due("hours(" + hours + ") leave", x.hours(hours), hours < 35 ? 0 : hours < 300 ? 2 : 3);
            Checks.due("clock", x.clock(), 5 + hours);
        }
    }

    /** 9: "Throws IllegalArgumentException if hours is out of range". */
    private static void hoursOutOfRangeAreRefused() {
        for (int hours : new int[] {0, 501, -1, -500, Integer.MIN_VALUE, Integer.MAX_VALUE}) {
            Consumer<CoalHulks> call = x -> x.hours(hours);
            Untouched.byRange("bare: hours(" + hours + ")", CoalHulks::new, call);
            Untouched.byRange("hours(" + hours + ")", Stations::busy, call);
            Untouched.byRange("later: hours(" + hours + ")", Stations::busyLater, call);
            Untouched.byRange("full: hours(" + hours + ")", Stations::full, call);
        }
    }

    /** 9: "Lets hours go by.": 40 of them in one call, or one by one, or by halves. */
    private static void manyHoursAreAsManySingleOnes() {
        CoalHulks at = Stations.busy();
        CoalHulks by = Stations.busy();
        int all = at.hours(40);
        int sum = 0;
        for (int i = 0; i < 40; i++) {
            sum += by.hours(1);
        }
        Checks.due("who leaves", sum, all);
        for (int i = 0; i < 5; i++) {
            Checks.due("load " + i, by.loadOf(i), at.loadOf(i));
            Checks.due("place " + i, by.placeOf(i), at.placeOf(i));
            Checks.due("gang " + i, by.gangOn(i), at.gangOn(i));
            Checks.due("rest " + i, by.restOf(i), at.restOf(i));
        }
        Checks.due("delivered", by.delivered(), at.delivered());
        Checks.due("clock", by.clock(), at.clock());
    }

    /** 9: "Returns how many steamers leave in them.", filled or short, from a buoy or from outside. */
    private static void hoursTellHowManyLeaveInThem() {
        CoalHulks x = new CoalHulks();
        x.hulk(20);
        x.lighter(20);
        x.gang(5);
        x.steamer(20, 9);
        x.steamer(5, 5);
        x.steamer(5, 5);
        x.steamer(5, 6);
        x.order(0, 0, 0);
        Checks.due("four hours", x.hours(4), 0);
        Checks.due("one filled, two short, in one hour", x.hours(1), 3);
        Checks.due("filled", x.fateOf(0), CoalHulks.FILLED);
        Checks.due("short from the buoy", x.fateOf(1), CoalHulks.GONE_SHORT);
        Checks.due("short from outside", x.fateOf(2), CoalHulks.GONE_SHORT);
        Checks.due("the last", x.hours(1), 1);
        Checks.due("each but once", x.hours(500), 0);
    }

    /** "the last hour of her patience (the first one is the hour that follows her arrival)". */
    private static void patienceBeginsWithTheHourBehindHerArrival() {
        for (int before : new int[] {0, 1, 7}) {
            for (int patience : new int[] {1, 2, 3, 499, 500}) {
                CoalHulks x = new CoalHulks();
                if (before > 0) {
                    x.hours(before);
                }
                x.steamer(5, patience);
                if (patience > 1) {
                    Checks.due("before the last of " + patience, x.hours(patience - 1), 0);
                    Checks.due("she lies there", x.fateOf(0), CoalHulks.AT_BUOY);
                }
                Checks.due("in the last of " + patience, x.hours(1), 1);
                Checks.due("she has left", x.fateOf(0), CoalHulks.GONE_SHORT);
                Checks.due("wanting", x.wantOf(0), 5);
            }
        }
    }

    /** "or at the end of the last hour of her patience [..], wherever she is". */
    private static void patienceRunsOutOutsideToo() {
        CoalHulks x = new CoalHulks();
        x.steamer(5, 400);
        x.steamer(5, 400);
        x.steamer(5, 3);
        x.hours(2);
        Checks.due("before the last", x.fateOf(2), CoalHulks.OUTSIDE);
        Checks.due("the first of the row", x.outside(0), 2);
        Checks.due("the last", x.hours(1), 1);
        Checks.due("gone", x.fateOf(2), CoalHulks.GONE_SHORT);
        Checks.due("out of the row", x.outside(0), -1);
    }

    private static CoalHulks sixtyFor(int want, int patience) {
        CoalHulks x = new CoalHulks();
        x.hulk(60);
        x.lighter(60);
        x.gang(10);
        x.steamer(want, patience);
        x.order(0, 0, 0);
        x.hours(5);
        return x;
    }

    /** "She leaves at the end of an hour behind which she wants nothing any more": at 0, not at 1. */
    private static void sheLeavesWhenSheWantsNothing() {
        CoalHulks none = sixtyFor(40, 500);
        Checks.due("before", none.fateOf(0), CoalHulks.AT_BUOY);
        Checks.due("wants 0: leaves", none.hours(1), 1);
        Checks.due("filled", none.fateOf(0), CoalHulks.FILLED);
        Checks.due("want", none.wantOf(0), 0);
        CoalHulks one = sixtyFor(41, 500);
        Checks.due("wants 1: stays", one.hours(1), 0);
        Checks.due("at her buoy", one.fateOf(0), CoalHulks.AT_BUOY);
        Checks.due("want", one.wantOf(0), 1);
        Checks.due("wants 0 then: leaves", one.hours(1), 1);
        Checks.due("filled then", one.fateOf(0), CoalHulks.FILLED);
    }

    /** Both ends in one hour: she who wants nothing is filled, she who wants 1 has gone short. */
    private static void filledInTheLastHourOfHerPatience() {
        CoalHulks none = sixtyFor(40, 6);
        Checks.due("leaves", none.hours(1), 1);
        Checks.due("filled", none.fateOf(0), CoalHulks.FILLED);
        Checks.due("want", none.wantOf(0), 0);
        CoalHulks one = sixtyFor(41, 6);
        Checks.due("leaves", one.hours(1), 1);
        Checks.due("short", one.fateOf(0), CoalHulks.GONE_SHORT);
        Checks.due("want", one.wantOf(0), 1);
        Checks.due("what she got", one.delivered(), 40);
    }

    /** "Two steamers can lie at the buoys; the others wait outside." */
    private static void twoSteamersLieAtTheBuoys() {
        for (int many = 1; many <= 8; many++) {
            CoalHulks x = new CoalHulks();
            for (int i = 0; i < many; i++) {
                x.steamer(5, 400);
            }
            x.hours(3);
            for (int i = 0; i < many; i++) {
                Checks.due(i + " of " + many, x.fateOf(i), i < 2 ? CoalHulks.AT_BUOY : CoalHulks.OUTSIDE);
            }
            Checks.due("outside of " + many, x.outside(0), many > 2 ? 2 : -1);
        }
    }

    /** "Steamers from outside take free buoys, in the order of their arrival." */
    private static void buoysAreTakenInTheOrderOfArrival() {
        CoalHulks x = new CoalHulks();
        int[] patience = {9, 3, 2, 9, 9};
        for (int i = 0; i < patience.length; i++) {
            x.steamer(5, patience[i]);
        }
        Checks.due("2 leaves from outside, 1 from her buoy", x.hours(3), 2);
        Checks.due("3 waits", x.outside(0), 3);
        Checks.due("4 behind her", x.outside(1), 4);
        x.steamer(5, 9);
        x.hours(1);
        Checks.due("3 takes the buoy", x.fateOf(3), CoalHulks.AT_BUOY);
        Checks.due("4 is next", x.outside(0), 4);
        Checks.due("5 behind her", x.outside(1), 5);
        Checks.due("and nobody", x.outside(2), -1);
    }

    /** The same sentence, with two buoys free at once, and three that wait. */
    private static void twoFreeBuoysAreTakenAtOnce() {
        CoalHulks x = new CoalHulks();
        int[] patience = {2, 2, 9, 9, 9};
        for (int i = 0; i < patience.length; i++) {
            x.steamer(5, patience[i]);
        }
        Checks.due("both leave", x.hours(2), 2);
        Checks.due("three wait", x.outside(2), 4);
        x.hours(1);
        Checks.due("2", x.fateOf(2), CoalHulks.AT_BUOY);
        Checks.due("3", x.fateOf(3), CoalHulks.AT_BUOY);
        Checks.due("4", x.fateOf(4), CoalHulks.OUTSIDE);
    }

    /** "An hour, in this order": buoys are taken before steamers leave, so a buoy is free an hour later. */
    private static void aBuoyIsFreeFromTheNextHourOn() {
        CoalHulks x = new CoalHulks();
        x.steamer(5, 1);
        x.steamer(5, 9);
        x.steamer(5, 2);
        Checks.due("0 leaves", x.hours(1), 1);
        Checks.due("2 is outside still", x.fateOf(2), CoalHulks.OUTSIDE);
        Checks.due("2 takes the buoy, and leaves", x.hours(1), 1);
        Checks.due("gone short", x.fateOf(2), CoalHulks.GONE_SHORT);
    }

    /** "An hour, in this order": buoys are taken before the lighters work. */
    private static void whoArrivesIsShovelledIntoInHerFirstHour() {
        CoalHulks x = new CoalHulks();
        x.hulk(500);
        x.lighter(20);
        x.gang(5);
        x.steamer(9, 4);
        x.steamer(9, 9);
        x.steamer(20, 9);
        x.order(0, 0, 2);
        x.hours(4);
        Checks.due("the lighter lies at her", x.placeOf(0), CoalHulks.AT_STEAMER);
        Checks.due("she is outside", x.fateOf(2), CoalHulks.OUTSIDE);
        Checks.due("she takes the buoy and is filled in one hour", x.hours(1), 1);
        Checks.due("filled", x.fateOf(2), CoalHulks.FILLED);
    }

    /**
     * "When a steamer leaves, the lighters that are outward bound to her, or lie at her, are homeward
     * bound from then on, and orders of those that still lie at a hulk are over; loads stay.": for
     * each hour of a round of 11 the state behind that hour, if she leaves in it.
     */
    private static void whenShortTheLighterTurnsBack() {
        int[] loads = {40, 80, 100, 100, 100, 100, 60, 20, 0, 0, 0, 0};
        for (int patience = 1; patience <= 12; patience++) {
            CoalHulks x = new CoalHulks();
            x.hulk(300);
            x.lighter(100);
            x.gang(10);
            x.steamer(9999, patience);
            x.order(0, 0, 0);
            Checks.due("she leaves behind " + patience, x.hours(patience), 1);
            boolean isAtHulk = patience <= 3 || patience >= 11;
            String when = " behind her hour " + patience;
            Checks.due("place" + when, x.placeOf(0), isAtHulk ? CoalHulks.AT_HULK : CoalHulks.HOMEWARD);
            Checks.due("gang" + when, x.gangOn(0), isAtHulk ? -1 : 0);
            Checks.due("load" + when, x.loadOf(0), loads[patience - 1]);
            // The way home counts as well: 7 hours and one home tire, 6 and one don't.
            Checks.due("rest" + when, x.restOf(0), patience == 11 ? 8 : patience == 12 ? 7 : 0);
            x.hours(1);
            Checks.due("home an hour" + when, x.placeOf(0), CoalHulks.AT_HULK);
            Checks.due("without order an hour" + when, x.gangOn(0), -1);
            Checks.due("load an hour" + when, x.loadOf(0), loads[patience - 1]);
            int rest = patience < 7 ? 0 : patience <= 10 ? 8 : 18 - patience;
            Checks.due("rest an hour" + when, x.restOf(0), rest);
        }
    }

    /** The same sentence for a steamer who is filled: five lighters, ordered an hour or more apart. */
    private static void whenFilledTheLightersTurnBack() {
        CoalHulks x = new CoalHulks();
        x.hulk(20000);
        for (int i = 0; i < 5; i++) {
            x.lighter(20);
            x.gang(5);
        }
        x.steamer(20, 500);
        for (int i = 0; i < 5; i++) {
            x.order(4 - i, i, 0);
            // The first empties its load in the hour 5; the others are 1 to 4 hours behind it.
            Checks.due("not filled yet", i < 4 ? x.hours(1) : 0, 0);
        }
        Checks.due("filled", x.hours(1), 1);
        Checks.due("who lay at her", x.placeOf(4), CoalHulks.HOMEWARD);
        Checks.due("who has come to her", x.placeOf(3), CoalHulks.HOMEWARD);
        Checks.due("who was outward", x.placeOf(2), CoalHulks.HOMEWARD);
        Checks.due("who cast off in that hour", x.placeOf(1), CoalHulks.HOMEWARD);
        Checks.due("who was at the hulk", x.placeOf(0), CoalHulks.AT_HULK);
        for (int i = 0; i < 5; i++) {
            Checks.due("load of " + i, x.loadOf(i), i == 4 ? 0 : 20);
            Checks.due("gang on " + i, x.gangOn(i), i == 0 ? -1 : 4 - i);
        }
        x.hours(1);
        for (int i = 0; i < 5; i++) {
            Checks.due("home: " + i, x.placeOf(i), CoalHulks.AT_HULK);
            Checks.due("over: " + i, x.gangOn(i), -1);
            Checks.due("load stays: " + i, x.loadOf(i), i == 4 ? 0 : 20);
        }
    }

    /** "outward bound to her, or lie at her": not those of another steamer. */
    private static void lightersOfOtherSteamersGoOn() {
        for (int patience = 1; patience <= 6; patience++) {
            CoalHulks with = besideOneOf(patience);
            CoalHulks without = besideOneOf(400);
            Checks.due("she leaves", with.hours(6), 1);
            Checks.due("she does not", without.hours(6), 0);
            Checks.due("place", with.placeOf(0), without.placeOf(0));
            Checks.due("load", with.loadOf(0), without.loadOf(0));
            Checks.due("gang", with.gangOn(0), without.gangOn(0));
            Checks.due("delivered", with.delivered(), 20);
        }
    }

    private static CoalHulks besideOneOf(int patience) {
        CoalHulks x = new CoalHulks();
        x.hulk(500);
        x.lighter(20);
        x.gang(5);
        x.steamer(9, patience);
        x.steamer(500, 400);
        x.order(0, 0, 1);
        return x;
    }

    /** A gang of one man that shovels for as many hours as its steamer has patience. */
    private static void workFor(CoalHulks x, int hours) {
        int steamer = 0;
        while (Checks.answerOf(fateOf(x, steamer)) != Checks.NUMBER) {
            steamer++;
        }
        x.steamer(9999, hours);
        x.order(0, 0, steamer);
        Checks.due("she leaves", x.hours(hours), 1);
        Checks.due("the order is over", x.gangOn(0), -1);
    }

    private static IntSupplier fateOf(CoalHulks x, int steamer) {
        return () -> x.fateOf(steamer);
    }

    private static CoalHulks oneMan() {
        CoalHulks x = new CoalHulks();
        x.hulk(20000);
        x.lighter(500);
        x.gang(1);
        return x;
    }

    /** "When its order is over and it counts 8 or more, it rests for 8 hours [..]; otherwise it is free at once". */
    private static void eightHoursTireAndSevenDoNot() {
        for (int hours : new int[] {1, 6, 7, 8, 9, 100}) {
            CoalHulks x = oneMan();
            workFor(x, hours);
            Checks.due("rest behind " + hours, x.restOf(0), hours < 8 ? 0 : 8);
            x.steamer(5, 5);
            int got = Checks.answerOf(() -> {
                x.order(0, 0, 1);
                return 0;
            });
            Checks.due("ordered at once behind " + hours, got, hours < 8 ? 0 : Checks.STATE);
        }
    }

    /** "otherwise it is free at once, and counts on". */
    private static void hoursAreCountedOnOverOrders() {
        int[][] rows = {{3, 4, 0}, {3, 5, 8}, {7, 1, 8}, {1, 6, 0}, {1, 7, 8}, {5, 5, 8}, {7, 7, 8}};
        for (int[] row : rows) {
            CoalHulks x = oneMan();
            workFor(x, row[0]);
            Checks.due("free behind " + row[0], x.restOf(0), 0);
            workFor(x, row[1]);
            Checks.due("rest behind " + row[0] + " and " + row[1], x.restOf(0), row[2]);
        }
        CoalHulks x = oneMan();
        for (int i = 1; i <= 8; i++) {
            workFor(x, 1);
            Checks.due("single hours: " + i, x.restOf(0), i < 8 ? 0 : 8);
        }
    }

    /** "Each hour in which its lighter has an order counts for a gang.": that of an empty hulk, too. */
    private static void theHourThatEndsAnOrderCounts() {
        CoalHulks x = new CoalHulks();
        x.hulk(0);
        x.lighter(20);
        x.gang(1);
        x.steamer(5, 500);
        for (int i = 1; i <= 8; i++) {
            x.order(0, 0, 0);
            x.hours(1);
            Checks.due("over", x.gangOn(0), -1);
            Checks.due("rest behind " + i, x.restOf(0), i < 8 ? 0 : 8);
        }
    }

    /** "it rests for 8 hours, and counts from 0 again". */
    private static void restCountsFrom0Again() {
        CoalHulks x = oneMan();
        workFor(x, 15);
        Checks.due("rest", x.restOf(0), 8);
        x.hours(8);
        workFor(x, 7);
        Checks.due("7 since", x.restOf(0), 0);
        workFor(x, 1);
        Checks.due("8 since", x.restOf(0), 8);
    }

    /** "Gangs and lighters without orders wait.": without being counted, and where they are. */
    private static void waitingCountsForNothing() {
        CoalHulks x = oneMan();
        workFor(x, 7);
        x.hours(500);
        Checks.due("no rest", x.restOf(0), 0);
        Checks.due("the load", x.loadOf(0), 28);
        Checks.due("the place", x.placeOf(0), CoalHulks.AT_HULK);
        Checks.due("the coal", x.coalIn(0), 20000 - 28);
        workFor(x, 1);
        Checks.due("the 8th hour", x.restOf(0), 8);
    }

    /** "gangs that rest have an hour less to rest", at an hour's beginning: the hour that tires is none of them. */
    private static void aRestIs8Hours() {
        CoalHulks x = oneMan();
        workFor(x, 8);
        for (int i = 8; i > 0; i--) {
            Checks.due("rest", x.restOf(0), i);
            x.hours(1);
        }
        Checks.due("over", x.restOf(0), 0);
        x.hours(1);
        Checks.due("never less", x.restOf(0), 0);
    }
}
