/**
 * The boundary cases of the document's terms on what a lighter with an order does in an hour, and
 * on shovelling; the remark of a test quotes the sentence that it holds.
 */
final class ShovelBoundsTest {
    public static void main(String[] args) {
        fullHoldCastsOff();
        emptyHulkCastsOff();
        noLoadAndAnEmptyHulkEndTheOrder();
        castingOffTakesTheHour();
        theWayOutTakesTwoHours();
        noLoadAnyMoreCastsOffForTheHulk();
        theWayHomeTakesOneHour();
        nothingHappensWhileSheWaitsOutside();
        orderOfTheLightersIsByNumber();
        strengthIsLessOneForEachWhole5OfDust();
        strengthAtTheSteamerFallsToo();
        neverMoreThanThereIsInTheHulk();
        neverMoreThanFitsIntoTheHold();
        neverMoreThanThereIsInTheLighter();
        neverMoreThanTheSteamerWants();
        theWantDoesNotBindAtTheHulk();
        aFiftiethAtTheHulk();
        aFiftiethAtTheSteamer();
        dustTakesNoRoom();
        dustIsNoLoad();
        noneIsMadeAndNoneIsLost();
        Checks.end();
    }

    /** One lighter at a hulk, ordered with a gang to a steamer of great patience. */
    private static CoalHulks ordered(int coal, int hold, int men, int want) {
        CoalHulks x = new CoalHulks();
        x.hulk(coal);
        x.lighter(hold);
        x.gang(men);
        x.steamer(want, 500);
        x.order(0, 0, 0);
        return x;
    }

    private static void anHour(String sentence, CoalHulks x, int load, int place) {
        x.hours(1);
        Checks.due(sentence + ": load at " + x.clock(), x.loadOf(0), load);
        Checks.due(sentence + ": place at " + x.clock(), x.placeOf(0), place);
    }

    /** "if the hold is full [..] it casts off": full at 40 of 40, not at 40 of 41. */
    private static void fullHoldCastsOff() {
        CoalHulks full = ordered(500, 40, 10, 500);
        anHour("full", full, 40, CoalHulks.AT_HULK);
        anHour("full", full, 40, CoalHulks.OUTWARD);
        Checks.due("full: coal", full.coalIn(0), 460);
        CoalHulks not = ordered(500, 41, 10, 500);
        anHour("one short of full", not, 40, CoalHulks.AT_HULK);
        anHour("one short of full", not, 41, CoalHulks.AT_HULK);
        anHour("one short of full", not, 41, CoalHulks.OUTWARD);
        Checks.due("one short of full: coal", not.coalIn(0), 459);
    }

    /** "or the hulk is empty, it casts off": empty behind 40 of 40, not behind 40 of 41. */
    private static void emptyHulkCastsOff() {
        CoalHulks empty = ordered(40, 100, 10, 500);
        anHour("empty", empty, 40, CoalHulks.AT_HULK);
        anHour("empty", empty, 40, CoalHulks.OUTWARD);
        CoalHulks not = ordered(41, 100, 10, 500);
        anHour("one left", not, 40, CoalHulks.AT_HULK);
        anHour("one left", not, 41, CoalHulks.AT_HULK);
        anHour("one left", not, 41, CoalHulks.OUTWARD);
    }

    /** "or its order is over, if it has no load": over with a load of 0, cast off with a load of 1. */
    private static void noLoadAndAnEmptyHulkEndTheOrder() {
        CoalHulks none = ordered(0, 100, 10, 500);
        anHour("no coal at all", none, 0, CoalHulks.AT_HULK);
        Checks.due("the order is over", none.gangOn(0), -1);
        Checks.due("the gang is free at once", none.restOf(0), 0);
        none.order(0, 0, 0);
        Checks.due("and takes another", none.gangOn(0), 0);
        CoalHulks one = ordered(1, 100, 10, 500);
        anHour("1 of coal", one, 1, CoalHulks.AT_HULK);
        Checks.due("the order stands", one.gangOn(0), 0);
        anHour("1 of coal", one, 1, CoalHulks.OUTWARD);
        Checks.due("and still", one.gangOn(0), 0);
    }

    /** "it casts off for the steamer (which takes the hour)", with a load from before as well. */
    private static void castingOffTakesTheHour() {
        CoalHulks x = new CoalHulks();
        x.hulk(500);
        x.hulk(0);
        x.lighter(20);
        x.lighter(100);
        x.gang(5);
        x.gang(5);
        x.steamer(9, 1);
        x.order(0, 0, 0);
        x.order(1, 1, 0);
        x.hours(1);
        x.shift(1, 1);
        x.steamer(500, 500);
        x.order(0, 0, 1);
        x.order(1, 1, 1);
        int[] places = {CoalHulks.OUTWARD, CoalHulks.OUTWARD, CoalHulks.AT_STEAMER, CoalHulks.AT_STEAMER};
        for (int i = 0; i < places.length; i++) {
            x.hours(1);
            Checks.due("full from before, hour " + (i + 1), x.placeOf(0), places[i]);
            Checks.due("its load", x.loadOf(0), i < 3 ? 20 : 0);
            Checks.due("at an empty hulk, hour " + (i + 1), x.placeOf(1), places[i]);
            Checks.due("its load", x.loadOf(1), i < 3 ? 20 : 0);
        }
        Checks.due("no coal more was taken", x.coalIn(0), 460);
    }

    /** "Outward: the way takes two hours; behind the second one it lies at the steamer." */
    private static void theWayOutTakesTwoHours() {
        CoalHulks x = ordered(500, 20, 5, 500);
        x.hours(1);
        anHour("casts off", x, 20, CoalHulks.OUTWARD);
        anHour("first hour", x, 20, CoalHulks.OUTWARD);
        Checks.due("nothing delivered", x.delivered(), 0);
        anHour("second hour", x, 20, CoalHulks.AT_STEAMER);
        Checks.due("nothing delivered yet", x.delivered(), 0);
        anHour("the hour behind", x, 0, CoalHulks.AT_STEAMER);
        Checks.due("delivered", x.delivered(), 20);
    }

    /** "At the steamer: if it has no load any more, it casts off for its hulk (which takes the hour, too)". */
    private static void noLoadAnyMoreCastsOffForTheHulk() {
        CoalHulks none = ordered(20, 20, 5, 500);
        none.hours(4);
        anHour("all of 20", none, 0, CoalHulks.AT_STEAMER);
        anHour("no load", none, 0, CoalHulks.HOMEWARD);
        CoalHulks one = ordered(21, 21, 5, 500);
        one.hours(5);
        anHour("20 of 21", one, 1, CoalHulks.AT_STEAMER);
        anHour("the last 1", one, 0, CoalHulks.AT_STEAMER);
        anHour("no load then", one, 0, CoalHulks.HOMEWARD);
        Checks.due("delivered", one.delivered(), 21);
    }

    /** "Homeward: the way takes one hour; behind it the lighter lies at its hulk, and its order is over." */
    private static void theWayHomeTakesOneHour() {
        CoalHulks x = ordered(500, 20, 5, 500);
        x.hours(6);
        Checks.due("homeward", x.placeOf(0), CoalHulks.HOMEWARD);
        Checks.due("under order", x.gangOn(0), 0);
        anHour("home", x, 0, CoalHulks.AT_HULK);
        Checks.due("the order is over", x.gangOn(0), -1);
        anHour("it waits", x, 0, CoalHulks.AT_HULK);
        Checks.due("and takes no coal", x.coalIn(0), 480);
    }

    /** "if she lies at a buoy, the gang shovels into her; if she waits outside, nothing happens". */
    private static void nothingHappensWhileSheWaitsOutside() {
        CoalHulks x = new CoalHulks();
        x.hulk(500);
        x.lighter(20);
        x.gang(5);
        x.steamer(9, 6);
        x.steamer(9, 60);
        x.steamer(50, 60);
        x.order(0, 0, 2);
        x.hours(4);
        anHour("outside", x, 20, CoalHulks.AT_STEAMER);
        Checks.due("outside", x.fateOf(2), CoalHulks.OUTSIDE);
        anHour("the hour in which a buoy gets free", x, 20, CoalHulks.AT_STEAMER);
        Checks.due("her want", x.wantOf(2), 50);
        anHour("the hour in which she takes it", x, 0, CoalHulks.AT_STEAMER);
        Checks.due("at the buoy", x.fateOf(2), CoalHulks.AT_BUOY);
        Checks.due("her want then", x.wantOf(2), 30);
    }

    /** "The lighters with orders, by rising numbers, do what they do.": the lower one gets the last. */
    private static void orderOfTheLightersIsByNumber() {
        CoalHulks x = new CoalHulks();
        x.hulk(21);
        x.lighter(20);
        x.lighter(20);
        x.gang(5);
        x.gang(5);
        x.steamer(20, 500);
        x.order(1, 0, 0);
        x.order(0, 1, 0);
        x.hours(1);
        Checks.due("lighter 0 has its 20", x.loadOf(0), 20);
        Checks.due("lighter 1 the last 1", x.loadOf(1), 1);
        Checks.due("hours to the steamer", x.hours(3), 0);
        Checks.due("she is filled by lighter 0", x.hours(1), 1);
        Checks.due("lighter 0", x.loadOf(0), 0);
        Checks.due("lighter 1 had nothing to fill any more", x.loadOf(1), 1);
        Checks.due("delivered", x.delivered(), 20);
    }

    /**
     * The lighter 0, without an order, with so much dust and some load, at the hulk 0; the gang 1 of
     * so many men and the last steamer are new. A round to a steamer and back grinds 12.
     */
    private static CoalHulks withDust(int dust, int men) {
        for (int patience = 0; patience <= 20; patience++) {
            CoalHulks x = new CoalHulks();
            x.hulk(20000);
            x.hulk(0);
            x.lighter(500);
            x.gang(20);
            grind(x, dust / 12, patience);
            if (x.dustIn(0) == dust) {
                x.hours(60);
                x.gang(men);
                x.steamer(9999, 500);
                return x;
            }
        }
        throw new IllegalStateException("no way to a dust of " + dust);
    }

    private static void grind(CoalHulks x, int rounds, int patience) {
        for (int i = 0; i < rounds; i++) {
            x.steamer(9999, 40);
            x.order(0, 0, i);
            x.hours(40);
        }
        if (patience > 0) {
            x.steamer(9999, patience);
            x.order(0, 0, rounds);
            // An hour more, so that a lighter that turns back is home.
            x.hours(patience + 1);
        }
    }

    private static int lastSteamer(CoalHulks x) {
        int number = 0;
        while (x.fateOf(number) != CoalHulks.OUTSIDE) {
            number++;
        }
        return number;
    }

    /** Men, dust, and what they shovel in an hour. */
    private static final int[][] STRENGTHS = {
        {1, 4, 4}, {1, 5, 3}, {1, 9, 3}, {1, 10, 2}, {1, 14, 2}, {1, 15, 1}, {1, 19, 1}, {1, 20, 1}, {1, 25, 1},
        {1, 30, 1}, {2, 4, 8}, {2, 5, 7}, {5, 14, 18}, {5, 15, 17}, {12, 4, 48}, {12, 5, 47}, {13, 9, 51},
        {13, 10, 50}, {13, 14, 50}, {13, 15, 49}, {20, 4, 80}, {20, 5, 79}, {20, 9, 79}, {20, 10, 78},
    };

    /** "4 n hundredweights, less one for each whole 5 of dust in the lighter, but at least 1", at the hulk. */
    private static void strengthIsLessOneForEachWhole5OfDust() {
        for (int[] row : STRENGTHS) {
            CoalHulks x = withDust(row[1], row[0]);
            int coal = x.coalIn(0);
            int load = x.loadOf(0);
            x.order(0, 1, lastSteamer(x));
            x.hours(1);
            String what = row[0] + " men in " + row[1] + " of dust, at the hulk";
            Checks.due(what, coal - x.coalIn(0), row[2]);
            Checks.due(what + ": load", x.loadOf(0) - load, row[2] - (row[2] >= 50 ? 1 : 0));
            Checks.due(what + ": dust", x.dustIn(0) - row[1], row[2] >= 50 ? 1 : 0);
        }
    }

    /** The same sentence for a gang that shovels into the steamer: the lighter's dust counts there, too. */
    private static void strengthAtTheSteamerFallsToo() {
        for (int[] row : STRENGTHS) {
            CoalHulks x = withDust(row[1], row[0]);
            int load = x.loadOf(0);
            int steamer = lastSteamer(x);
            x.shift(0, 1);
            x.order(0, 1, steamer);
            x.hours(3);
            Checks.due("with its load at the steamer", x.loadOf(0), load);
            x.hours(1);
            String what = row[0] + " men in " + row[1] + " of dust, at the steamer";
            Checks.due(what, load - x.loadOf(0), row[2]);
            Checks.due(what + ": want", 9999 - x.wantOf(steamer), row[2] - (row[2] >= 50 ? 1 : 0));
            Checks.due(what + ": dust", x.dustIn(0) - row[1], row[2] >= 50 ? 1 : 0);
        }
    }

    /** "never more than there is to shovel", from the hulk. */
    private static void neverMoreThanThereIsInTheHulk() {
        for (int coal = 39; coal <= 41; coal++) {
            CoalHulks x = ordered(coal, 100, 10, 500);
            x.hours(1);
            Checks.due("of " + coal, x.loadOf(0), coal < 40 ? coal : 40);
            Checks.due("left of " + coal, x.coalIn(0), coal < 40 ? 0 : coal - 40);
        }
    }

    /** "never more [..] than fits into the hold". */
    private static void neverMoreThanFitsIntoTheHold() {
        for (int hold = 39; hold <= 41; hold++) {
            CoalHulks x = ordered(500, hold, 10, 500);
            x.hours(1);
            Checks.due("into " + hold, x.loadOf(0), hold < 40 ? hold : 40);
            Checks.due("left by " + hold, x.coalIn(0), 500 - (hold < 40 ? hold : 40));
        }
        // What is shovelled is bounded by the hold; the dust is taken off that.
        CoalHulks dusty = ordered(500, 50, 20, 500);
        anHour("50 into 50", dusty, 49, CoalHulks.AT_HULK);
        Checks.due("50 into 50: coal", dusty.coalIn(0), 450);
        anHour("the last 1", dusty, 50, CoalHulks.AT_HULK);
        anHour("full then", dusty, 50, CoalHulks.OUTWARD);
    }

    /** "never more than there is to shovel", from the lighter. */
    private static void neverMoreThanThereIsInTheLighter() {
        for (int coal = 39; coal <= 41; coal++) {
            CoalHulks x = ordered(coal, 100, 10, 500);
            x.hours(coal <= 40 ? 4 : 5);
            Checks.due("it lies at her", x.placeOf(0), CoalHulks.AT_STEAMER);
            Checks.due("with " + coal, x.loadOf(0), coal);
            x.hours(1);
            Checks.due("left of " + coal, x.loadOf(0), coal < 40 ? 0 : coal - 40);
            Checks.due("delivered of " + coal, x.delivered(), coal < 40 ? coal : 40);
        }
    }

    /** "never more [..] than the steamer wants". */
    private static void neverMoreThanTheSteamerWants() {
        for (int want = 39; want <= 41; want++) {
            CoalHulks x = ordered(60, 60, 10, want);
            x.hours(5);
            Checks.due("it lies at her", x.placeOf(0), CoalHulks.AT_STEAMER);
            Checks.due("she leaves, wanting " + want, x.hours(1), want <= 40 ? 1 : 0);
            Checks.due("wants still of " + want, x.wantOf(0), want < 40 ? 0 : want - 40);
            Checks.due("load behind " + want, x.loadOf(0), 60 - (want < 40 ? want : 40));
        }
    }

    /** "or than the steamer wants": what goes into the hold is bounded by the hold, not by her want. */
    private static void theWantDoesNotBindAtTheHulk() {
        CoalHulks x = ordered(500, 100, 10, 1);
        x.hours(1);
        Checks.due("load for a want of 1", x.loadOf(0), 40);
        x.hours(5);
        Checks.due("a full hold for a want of 1", x.loadOf(0), 100);
        x.hours(1);
        Checks.due("she got 1", x.loadOf(0), 99);
        Checks.due("filled", x.fateOf(0), CoalHulks.FILLED);
    }

    /** "A fiftieth of it, rounded down, becomes dust in the lighter, the rest gets where it should." */
    private static void aFiftiethAtTheHulk() {
        int[][] rows = {{1, 1, 0}, {49, 49, 0}, {50, 49, 1}, {51, 50, 1}, {80, 79, 1}};
        for (int[] row : rows) {
            CoalHulks x = ordered(row[0], 500, 20, 500);
            x.hours(1);
            Checks.due(row[0] + " shovelled: load", x.loadOf(0), row[1]);
            Checks.due(row[0] + " shovelled: dust", x.dustIn(0), row[2]);
            Checks.due(row[0] + " shovelled: coal", x.coalIn(0), 0);
        }
        CoalHulks twelve = ordered(500, 500, 12, 500);
        twelve.hours(9);
        Checks.due("48 in an hour grind nothing", twelve.dustIn(0), 0);
        CoalHulks thirteen = ordered(500, 500, 13, 500);
        thirteen.hours(4);
        Checks.due("52 in an hour grind 1 each", thirteen.dustIn(0), 4);
    }

    /** The same sentence, for what is shovelled into the steamer. */
    private static void aFiftiethAtTheSteamer() {
        int[][] rows = {{1, 1, 0}, {49, 49, 0}, {50, 49, 1}, {51, 50, 1}};
        for (int[] row : rows) {
            CoalHulks x = ordered(500, 60, 20, row[0]);
            x.hours(5);
            Checks.due("it lies at her", x.placeOf(0), CoalHulks.AT_STEAMER);
            Checks.due("dust before", x.dustIn(0), 1);
            x.hours(1);
            Checks.due(row[0] + " shovelled: load", x.loadOf(0), 60 - row[0]);
            Checks.due(row[0] + " shovelled: delivered", x.delivered(), row[1]);
            Checks.due(row[0] + " shovelled: want", x.wantOf(0), row[2]);
            Checks.due(row[0] + " shovelled: dust", x.dustIn(0), 1 + row[2]);
            Checks.due(row[0] + " shovelled: fate", x.fateOf(0), row[2] > 0 ? CoalHulks.AT_BUOY : CoalHulks.FILLED);
        }
    }

    /** "Dust [..] takes no room in the hold.": a hold of 500 takes 500 beside its dust. */
    private static void dustTakesNoRoom() {
        CoalHulks x = ordered(20000, 500, 20, 9999);
        x.hours(7);
        Checks.due("load", x.loadOf(0), 500);
        Checks.due("dust", x.dustIn(0), 6);
        Checks.due("coal", x.coalIn(0), 20000 - 506);
        Checks.due("still at the hulk", x.placeOf(0), CoalHulks.AT_HULK);
    }

    /** "Dust is no load": with dust alone it casts off for home, and an order at an empty hulk is over. */
    private static void dustIsNoLoad() {
        CoalHulks x = ordered(60, 500, 20, 500);
        x.hours(5);
        Checks.due("load", x.loadOf(0), 0);
        Checks.due("dust", x.dustIn(0), 2);
        x.hours(1);
        Checks.due("homeward with its dust", x.placeOf(0), CoalHulks.HOMEWARD);
        x.hours(1);
        x.order(0, 0, 0);
        x.hours(1);
        Checks.due("over at once with its dust", x.gangOn(0), -1);
        Checks.due("dust then", x.dustIn(0), 2);
        Checks.due("place", x.placeOf(0), CoalHulks.AT_HULK);
    }

    /** "none is made and none is lost": coal, loads, dust and what is delivered are the same in sum. */
    private static void noneIsMadeAndNoneIsLost() {
        CoalHulks x = new CoalHulks();
        x.hulk(1500);
        x.hulk(800);
        for (int i = 0; i < 3; i++) {
            x.lighter(20 + 240 * i);
            x.gang(20 - 3 * i);
        }
        x.shift(2, 1);
        x.steamer(700, 30);
        x.steamer(9999, 17);
        for (int i = 0; i < 3; i++) {
            x.order(i, i, i % 2);
        }
        for (int i = 0; i < 34; i++) {
            x.hours(1);
            int sum = x.delivered() + x.coalIn(0) + x.coalIn(1);
            for (int l = 0; l < 3; l++) {
                sum += x.loadOf(l) + x.dustIn(l);
            }
            Checks.due("all coal behind hour " + (i + 1), sum, 2300);
        }
        int dust = x.dustIn(2);
        Checks.due("some dust", dust > 0 ? 1 : 0, 1);
        int coal = x.coalIn(1);
        Checks.due("swept", x.sweep(2, 2), dust);
        Checks.due("is coal", x.coalIn(1), coal + dust);
    }
}
