/** Promise 9, hours, and what an hour does by the document's terms. */
final class HoursTest {
    public static void main(String[] args) {
        hoursRefusesOutOfRange();
        hoursTellsWhoLeaves();
        buoysGoByArrival();
        aLighterGoesRound();
        theLastHundredweight();
        fullHoldCastsOff();
        emptyHulkCastsOffOrEnds();
        lowerNumbersShovelFirst();
        nothingHappensOutside();
        strengthFallsWithDust();
        strengthIsAtLeastOne();
        dustTakesNoRoom();
        holdBoundsTheShovels();
        coalBoundsTheShovels();
        wantBoundsTheShovels();
        filledInTheLastHour();
        leavingTurnsLightersHome();
        leavingFromOutside();
        countingTires();
        waitingDoesNotCount();
        tiredWhenTheSteamerLeaves();
        restFallsHourByHour();
        Checks.end();
    }

    private static void hoursRefusesOutOfRange() {
        CoalHulks x = new CoalHulks();
        Checks.refusedRange("hours(0)", () -> x.hours(0));
        Checks.refusedRange("hours(501)", () -> x.hours(501));
        Checks.refusedRange("hours(-1)", () -> x.hours(-1));
        Checks.refusedRange("hours(most int)", () -> x.hours(Integer.MAX_VALUE));
        Checks.due("clock stands", x.clock(), 0);
        Checks.due("hours(500)", x.hours(500), 0);
        Checks.due("hours(1)", x.hours(1), 0);
        Checks.due("clock", x.clock(), 501);
    }

    private static void hoursTellsWhoLeaves() {
        CoalHulks x = new CoalHulks();
        x.steamer(5, 3);
        x.steamer(5, 1);
        x.steamer(5, 3);
        x.steamer(5, 500);
        Checks.due("first hour", x.hours(1), 1);
        Checks.due("second hour", x.hours(1), 0);
        x.steamer(5, 1);
        Checks.due("third hour", x.hours(1), 3);
        Checks.due("to the 499th hour", x.hours(496), 0);
        Checks.due("the 500th hour", x.hours(1), 1);
        Checks.due("and nobody more", x.hours(1), 0);
    }

    private static void buoysGoByArrival() {
        CoalHulks x = new CoalHulks();
        x.steamer(5, 2);
        x.steamer(5, 9);
        x.steamer(5, 1);
        x.steamer(5, 9);
        x.hours(1);
        Checks.due("0 at a buoy", x.fateOf(0), CoalHulks.AT_BUOY);
        Checks.due("1 at a buoy", x.fateOf(1), CoalHulks.AT_BUOY);
        Checks.due("2 left from outside", x.fateOf(2), CoalHulks.GONE_SHORT);
        Checks.due("3 outside", x.fateOf(3), CoalHulks.OUTSIDE);
        x.hours(1);
        Checks.due("0 left", x.fateOf(0), CoalHulks.GONE_SHORT);
        Checks.due("3 still outside: buoys are taken before others leave", x.fateOf(3), CoalHulks.OUTSIDE);
        x.hours(1);
        Checks.due("3 at a buoy", x.fateOf(3), CoalHulks.AT_BUOY);
    }

    private static void aLighterGoesRound() {
        CoalHulks x = new CoalHulks();
        x.hulk(300);
        x.lighter(100);
        x.gang(10);
        x.steamer(500, 500);
        x.order(0, 0, 0);
        int[] loads = {40, 80, 100, 100, 100, 100, 60, 20, 0, 0, 0, 0};
        int[] places = {0, 0, 0, 1, 1, 2, 2, 2, 2, 3, 0, 0};
        for (int i = 0; i < loads.length; i++) {
            Checks.due("who leaves in hour " + (i + 1), x.hours(1), 0);
            Checks.due("load behind hour " + (i + 1), x.loadOf(0), loads[i]);
            Checks.due("place behind hour " + (i + 1), x.placeOf(0), places[i]);
            Checks.due("gang behind hour " + (i + 1), x.gangOn(0), i < 10 ? 0 : -1);
        }
        Checks.due("want", x.wantOf(0), 400);
        Checks.due("delivered", x.delivered(), 100);
        Checks.due("coal", x.coalIn(0), 200);
        aSecondRoundIsAsLong(x);
    }

    private static void aSecondRoundIsAsLong(CoalHulks x) {
        x.hours(8);
        x.order(0, 0, 0);
        int[] places = {0, 0, 0, 1, 1, 2, 2, 2, 2, 3, 0};
        for (int i = 0; i < places.length; i++) {
            x.hours(1);
            Checks.due("place in the second round, hour " + (i + 1), x.placeOf(0), places[i]);
        }
    }

    private static void theLastHundredweight() {
        CoalHulks x = new CoalHulks();
        x.hulk(41);
        x.hulk(1);
        x.lighter(60);
        x.lighter(60);
        x.shift(1, 1);
        x.gang(10);
        x.gang(10);
        x.steamer(42, 8);
        x.steamer(42, 500);
        x.order(0, 0, 0);
        x.order(1, 1, 1);
        x.hours(2);
        Checks.due("the hulk's last", x.loadOf(0), 41);
        Checks.due("with 1 it casts off", x.placeOf(1), CoalHulks.OUTWARD);
        x.hours(5);
        Checks.due("the lighter's last", x.loadOf(0), 0);
        Checks.due("it lies at her", x.placeOf(0), CoalHulks.AT_STEAMER);
        Checks.due("she wants 1", x.wantOf(0), 1);
        Checks.due("and leaves", x.hours(1), 1);
        Checks.due("short of 1", x.fateOf(0), CoalHulks.GONE_SHORT);
        Checks.due("wanted 1", x.wantOf(0), 1);
    }

    private static void fullHoldCastsOff() {
        CoalHulks x = new CoalHulks();
        x.hulk(300);
        x.lighter(20);
        x.gang(20);
        x.steamer(5, 1);
        x.order(0, 0, 0);
        x.hours(1);
        Checks.due("full, and at the hulk", x.loadOf(0), 20);
        x.steamer(500, 500);
        x.order(0, 0, 1);
        x.hours(1);
        Checks.due("casts off at once", x.placeOf(0), CoalHulks.OUTWARD);
        Checks.due("and shovels no more", x.coalIn(0), 280);
    }

    private static void emptyHulkCastsOffOrEnds() {
        CoalHulks x = new CoalHulks();
        x.hulk(30);
        x.hulk(0);
        x.lighter(100);
        x.gang(5);
        x.steamer(500, 500);
        x.shift(0, 1);
        x.order(0, 0, 0);
        Checks.due("an hour for nothing", x.hours(1), 0);
        Checks.due("no load: the order is over", x.gangOn(0), -1);
        Checks.due("at the hulk", x.placeOf(0), CoalHulks.AT_HULK);
        x.shift(0, 0);
        x.order(0, 0, 0);
        x.hours(2);
        Checks.due("the hulk's last", x.loadOf(0), 30);
        Checks.due("still there", x.placeOf(0), CoalHulks.AT_HULK);
        x.hours(1);
        Checks.due("some load: casts off", x.placeOf(0), CoalHulks.OUTWARD);
        Checks.due("under order", x.gangOn(0), 0);
    }

    private static void lowerNumbersShovelFirst() {
        CoalHulks x = new CoalHulks();
        x.hulk(30);
        x.lighter(100);
        x.lighter(100);
        x.lighter(100);
        x.gang(5);
        x.gang(5);
        x.gang(5);
        x.steamer(25, 500);
        x.order(2, 0, 0);
        x.order(1, 1, 0);
        x.order(0, 2, 0);
        x.hours(1);
        Checks.due("lighter 0", x.loadOf(0), 20);
        Checks.due("lighter 1", x.loadOf(1), 10);
        Checks.due("lighter 2", x.loadOf(2), 0);
        Checks.due("its order is over in that hour", x.gangOn(2), -1);
        Checks.due("hours to the steamer", x.hours(3), 0);
        Checks.due("lighter 1 lies there", x.placeOf(1), CoalHulks.AT_STEAMER);
        Checks.due("filled in the next hour", x.hours(1), 1);
        Checks.due("lighter 0 emptied", x.loadOf(0), 0);
        Checks.due("lighter 1 had what was wanted still", x.loadOf(1), 5);
        Checks.due("delivered", x.delivered(), 25);
    }

    private static void nothingHappensOutside() {
        CoalHulks x = new CoalHulks();
        x.hulk(100);
        x.lighter(20);
        x.gang(5);
        x.steamer(9, 20);
        x.steamer(9, 20);
        x.steamer(9, 400);
        x.order(0, 0, 2);
        x.hours(19);
        Checks.due("it lies at her", x.placeOf(0), CoalHulks.AT_STEAMER);
        Checks.due("nothing is shovelled", x.loadOf(0), 20);
        Checks.due("she is outside", x.fateOf(2), CoalHulks.OUTSIDE);
        Checks.due("others leave", x.hours(1), 2);
        Checks.due("nothing yet", x.loadOf(0), 20);
        Checks.due("she takes a buoy and is filled", x.hours(1), 1);
        Checks.due("filled", x.fateOf(2), CoalHulks.FILLED);
        Checks.due("load", x.loadOf(0), 11);
        x.hours(1);
        Checks.due("waiting counted for the gang", x.restOf(0), 8);
    }

    /** One hulk of 20000, a lighter and a gang, and a steamer who wants 9999 with patience for 500. */
    private static CoalHulks oneOfEach(int hold, int men) {
        CoalHulks x = new CoalHulks();
        x.hulk(20000);
        x.lighter(hold);
        x.gang(men);
        x.steamer(9999, 500);
        x.order(0, 0, 0);
        return x;
    }

    private static void strengthFallsWithDust() {
        CoalHulks x = oneOfEach(500, 20);
        int[] loads = {79, 158, 237, 316, 395, 473, 500, 500, 500, 500, 421, 342, 263, 184, 106, 28, 0};
        int[] dusts = {1, 2, 3, 4, 5, 6, 6, 6, 6, 6, 7, 8, 9, 10, 11, 12, 12};
        int[] given = {0, 0, 0, 0, 0, 0, 0, 0, 0, 0, 78, 156, 234, 312, 389, 466, 494};
        for (int i = 0; i < loads.length; i++) {
            x.hours(1);
            Checks.due("load behind hour " + (i + 1), x.loadOf(0), loads[i]);
            Checks.due("dust behind hour " + (i + 1), x.dustIn(0), dusts[i]);
            Checks.due("want behind hour " + (i + 1), x.wantOf(0), 9999 - given[i]);
            Checks.due("delivered behind hour " + (i + 1), x.delivered(), given[i]);
        }
        Checks.due("coal", x.coalIn(0), 20000 - 506);
    }

    private static void strengthIsAtLeastOne() {
        CoalHulks x = oneOfEach(500, 20);
        x.gang(1);
        x.hours(40);
        x.order(0, 0, 0);
        x.hours(40);
        x.order(0, 0, 0);
        x.hours(40);
        Checks.due("25 of dust or more", x.dustIn(0) >= 25 ? 1 : 0, 1);
        x.order(0, 1, 0);
        for (int i = 1; i <= 10; i++) {
            x.hours(1);
            Checks.due("one in an hour", x.loadOf(0), i);
        }
    }

    private static void dustTakesNoRoom() {
        CoalHulks x = oneOfEach(100, 20);
        x.hours(2);
        Checks.due("dust", x.dustIn(0), 1);
        Checks.due("and a full hold", x.loadOf(0), 100);
        Checks.due("coal", x.coalIn(0), 19899);
    }

    /** What is shovelled is bounded, and the dust taken off what is bounded. */
    private static void holdBoundsTheShovels() {
        CoalHulks x = oneOfEach(80, 20);
        x.hours(1);
        Checks.due("80 shovelled, 1 ground", x.loadOf(0), 79);
        Checks.due("coal", x.coalIn(0), 19920);
        x.hours(1);
        Checks.due("1 more", x.loadOf(0), 80);
        Checks.due("at the hulk", x.placeOf(0), CoalHulks.AT_HULK);
        Checks.due("coal then", x.coalIn(0), 19919);
        x.hours(1);
        Checks.due("cast off", x.placeOf(0), CoalHulks.OUTWARD);
    }

    private static void coalBoundsTheShovels() {
        CoalHulks x = new CoalHulks();
        x.hulk(49);
        x.hulk(50);
        x.lighter(100);
        x.lighter(100);
        x.shift(1, 1);
        x.gang(20);
        x.gang(20);
        x.steamer(500, 50);
        x.order(0, 0, 0);
        x.order(1, 1, 0);
        x.hours(1);
        Checks.due("49: load", x.loadOf(0), 49);
        Checks.due("49: dust", x.dustIn(0), 0);
        Checks.due("49: coal", x.coalIn(0), 0);
        Checks.due("50: load", x.loadOf(1), 49);
        Checks.due("50: dust", x.dustIn(1), 1);
        Checks.due("50: coal", x.coalIn(1), 0);
    }

    private static void wantBoundsTheShovels() {
        CoalHulks x = new CoalHulks();
        x.hulk(20000);
        x.lighter(100);
        x.gang(20);
        x.steamer(60, 500);
        x.order(0, 0, 0);
        x.hours(5);
        Checks.due("it lies at her", x.placeOf(0), CoalHulks.AT_STEAMER);
        Checks.due("60 shovelled, 1 ground", x.hours(1), 0);
        Checks.due("load", x.loadOf(0), 40);
        Checks.due("want", x.wantOf(0), 1);
        Checks.due("dust", x.dustIn(0), 2);
        Checks.due("1 more", x.hours(1), 1);
        Checks.due("load then", x.loadOf(0), 39);
        Checks.due("want then", x.wantOf(0), 0);
        Checks.due("filled", x.fateOf(0), CoalHulks.FILLED);
        Checks.due("delivered", x.delivered(), 60);
    }

    private static void filledInTheLastHour() {
        CoalHulks x = new CoalHulks();
        x.hulk(500);
        x.lighter(20);
        x.gang(5);
        x.steamer(20, 5);
        x.order(0, 0, 0);
        Checks.due("none before", x.hours(4), 0);
        Checks.due("she leaves once", x.hours(1), 1);
        Checks.due("filled", x.fateOf(0), CoalHulks.FILLED);
        Checks.due("wants nothing", x.wantOf(0), 0);
    }

    /** Lighters of 20 with gangs of 5 men: an hour at the hulk, one to cast off, two out, one to empty. */
    private static CoalHulks fiveLighters() {
        CoalHulks x = new CoalHulks();
        x.hulk(20000);
        for (int i = 0; i < 5; i++) {
            x.lighter(20);
            x.gang(5);
        }
        x.steamer(9999, 9);
        x.steamer(9999, 500);
        x.hours(3);
        x.order(0, 0, 0);
        x.hours(2);
        x.order(1, 1, 0);
        x.hours(1);
        x.order(2, 2, 0);
        x.order(4, 4, 1);
        x.hours(2);
        x.order(3, 3, 0);
        return x;
    }

    private static void leavingTurnsLightersHome() {
        CoalHulks x = fiveLighters();
        Checks.due("she leaves", x.hours(1), 1);
        Checks.due("gone short", x.fateOf(0), CoalHulks.GONE_SHORT);
        Checks.due("want", x.wantOf(0), 9979);
        Checks.due("had cast off", x.placeOf(0), CoalHulks.HOMEWARD);
        Checks.due("had lain at her", x.placeOf(1), CoalHulks.HOMEWARD);
        Checks.due("was outward", x.placeOf(2), CoalHulks.HOMEWARD);
        Checks.due("was at the hulk", x.placeOf(3), CoalHulks.AT_HULK);
        Checks.due("outward to another", x.placeOf(4), CoalHulks.OUTWARD);
        for (int i = 0; i < 5; i++) {
            Checks.due("load of " + i, x.loadOf(i), i == 0 ? 0 : 20);
            Checks.due("gang on " + i, x.gangOn(i), i == 3 ? -1 : i);
        }
        x.hours(1);
        for (int i = 0; i < 4; i++) {
            Checks.due("home: " + i, x.placeOf(i), CoalHulks.AT_HULK);
            Checks.due("order over: " + i, x.gangOn(i), -1);
            Checks.due("load stays: " + i, x.loadOf(i), i == 0 ? 0 : 20);
        }
        Checks.due("the other goes on", x.placeOf(4), CoalHulks.AT_STEAMER);
        Checks.due("under order", x.gangOn(4), 4);
    }

    private static void leavingFromOutside() {
        CoalHulks x = new CoalHulks();
        x.hulk(100);
        x.lighter(20);
        x.gang(5);
        x.steamer(9, 50);
        x.steamer(9, 50);
        x.steamer(9, 6);
        x.order(0, 0, 2);
        Checks.due("not yet", x.hours(5), 0);
        Checks.due("she leaves", x.hours(1), 1);
        Checks.due("gone short", x.fateOf(2), CoalHulks.GONE_SHORT);
        Checks.due("want", x.wantOf(2), 9);
        Checks.due("nobody outside", x.outside(0), -1);
        Checks.due("homeward", x.placeOf(0), CoalHulks.HOMEWARD);
        Checks.due("with its load", x.loadOf(0), 20);
        x.hours(1);
        Checks.due("home", x.placeOf(0), CoalHulks.AT_HULK);
        Checks.due("7 hours don't tire", x.restOf(0), 0);
    }

    private static void countingTires() {
        CoalHulks x = oneOfEach(20, 5);
        x.hours(6);
        Checks.due("homeward", x.placeOf(0), CoalHulks.HOMEWARD);
        x.hours(1);
        Checks.due("home", x.gangOn(0), -1);
        Checks.due("7 hours don't tire", x.restOf(0), 0);
        x.hulk(0);
        x.shift(0, 1);
        x.hours(20);
        x.order(0, 0, 0);
        x.hours(1);
        Checks.due("an empty hulk", x.gangOn(0), -1);
        Checks.due("8 hours do", x.restOf(0), 8);
        x.hours(8);
        x.shift(0, 0);
        x.order(0, 0, 0);
        x.hours(7);
        Checks.due("home again", x.gangOn(0), -1);
        Checks.due("counted from 0", x.restOf(0), 0);
    }

    private static void waitingDoesNotCount() {
        CoalHulks x = oneOfEach(20, 5);
        x.hours(27);
        Checks.due("it counts 7", x.restOf(0), 0);
        CoalHulks y = new CoalHulks();
        y.hulk(20);
        y.lighter(20);
        y.gang(5);
        y.hours(30);
        y.steamer(500, 500);
        y.order(0, 0, 0);
        y.hours(7);
        Checks.due("order over", y.gangOn(0), -1);
        Checks.due("waiting does not tire", y.restOf(0), 0);
    }

    private static void tiredWhenTheSteamerLeaves() {
        for (int patience = 7; patience <= 8; patience++) {
            CoalHulks x = new CoalHulks();
            x.hulk(20000);
            x.lighter(500);
            x.gang(1);
            x.steamer(9, patience);
            x.order(0, 0, 0);
            Checks.due("she leaves", x.hours(patience), 1);
            Checks.due("order over", x.gangOn(0), -1);
            Checks.due("load stays", x.loadOf(0), 4 * patience);
            Checks.due("rest behind " + patience, x.restOf(0), patience == 8 ? 8 : 0);
        }
    }

    private static void restFallsHourByHour() {
        CoalHulks x = new CoalHulks();
        x.hulk(1);
        x.lighter(20);
        x.gang(1);
        x.gang(1);
        x.sweep(0, 0);
        x.hours(3);
        x.sweep(0, 1);
        Checks.due("of the first", x.restOf(0), 5);
        Checks.due("of the second", x.restOf(1), 8);
        x.hours(5);
        Checks.due("of the first then", x.restOf(0), 0);
        Checks.due("of the second then", x.restOf(1), 3);
        x.hours(500);
        Checks.due("never below 0", x.restOf(0), 0);
    }
}
