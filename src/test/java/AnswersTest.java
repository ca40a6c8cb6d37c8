/** Promises 10 to 20: the calls that only answer. */
final class AnswersTest {
    public static void main(String[] args) {
        clockCountsHours();
        hulksAreTold();
        lightersAreTold();
        gangsAreTold();
        steamersAreTold();
        outsideFollowsTheQueue();
        deliveredLeavesDustOut();
        answersChangeNothing();
        Checks.end();
    }

    /** Two hulks, two lighters, two gangs, three steamers, and one order. */
    private static CoalHulks station() {
        CoalHulks x = new CoalHulks();
        x.hulk(1000);
        x.hulk(20000);
        x.lighter(100);
        x.lighter(20);
        x.gang(10);
        x.gang(20);
        x.steamer(500, 100);
        x.steamer(7, 3);
        x.steamer(90, 50);
        x.order(0, 1, 0);
        return x;
    }

    private static void clockCountsHours() {
        CoalHulks x = station();
        Checks.due("clock before", x.clock(), 0);
        x.hours(3);
        Checks.due("clock behind 3", x.clock(), 3);
        x.sweep(1, 0);
        x.shift(1, 1);
        Checks.due("sweeping and shifting take none", x.clock(), 3);
        Checks.refusedRange("hours(501)", () -> x.hours(501));
        x.hours(500);
        Checks.due("clock behind 500 more", x.clock(), 503);
    }

    private static void hulksAreTold() {
        CoalHulks x = station();
        x.hours(1);
        Checks.due("coalIn(0)", x.coalIn(0), 920);
        Checks.due("coalIn(1)", x.coalIn(1), 20000);
        Checks.refusedNumber("coalIn(2)", () -> x.coalIn(2));
        Checks.refusedNumber("coalIn(-1)", () -> x.coalIn(-1));
        Checks.refusedNumber("coalIn(least int)", () -> x.coalIn(Integer.MIN_VALUE));
        Checks.refusedNumber("coalIn(most int)", () -> x.coalIn(Integer.MAX_VALUE));
    }

    private static void lightersAreTold() {
        CoalHulks x = station();
        x.hours(1);
        Checks.due("loadOf(0)", x.loadOf(0), 79);
        Checks.due("dustIn(0)", x.dustIn(0), 1);
        Checks.due("gangOn(0)", x.gangOn(0), 1);
        Checks.due("loadOf(1)", x.loadOf(1), 0);
        Checks.due("dustIn(1)", x.dustIn(1), 0);
        Checks.due("gangOn(1)", x.gangOn(1), -1);
        x.hours(2);
        Checks.due("placeOf(0)", x.placeOf(0), CoalHulks.OUTWARD);
        Checks.due("placeOf(1)", x.placeOf(1), CoalHulks.AT_HULK);
        for (int number : new int[] {2, 6, -1, Integer.MIN_VALUE, Integer.MAX_VALUE}) {
            Checks.refusedNumber("placeOf(" + number + ")", () -> x.placeOf(number));
            Checks.refusedNumber("loadOf(" + number + ")", () -> x.loadOf(number));
            Checks.refusedNumber("dustIn(" + number + ")", () -> x.dustIn(number));
            Checks.refusedNumber("gangOn(" + number + ")", () -> x.gangOn(number));
        }
    }

    private static void gangsAreTold() {
        CoalHulks x = station();
        Checks.due("could be ordered", x.restOf(0), 0);
        Checks.due("has an order", x.restOf(1), 0);
        x.sweep(1, 0);
        Checks.due("has swept", x.restOf(0), 8);
        x.hours(1);
        Checks.due("an hour later", x.restOf(0), 7);
        x.hours(7);
        Checks.due("aboard", x.gangOn(0), 1);
        Checks.due("aboard for 8 hours", x.restOf(1), 0);
        x.hours(1);
        Checks.due("home behind 9", x.restOf(1), 8);
        for (int number : new int[] {2, 6, -1, Integer.MIN_VALUE, Integer.MAX_VALUE}) {
            Checks.refusedNumber("restOf(" + number + ")", () -> x.restOf(number));
        }
    }

    private static void steamersAreTold() {
        CoalHulks x = station();
        Checks.due("outside", x.fateOf(0), CoalHulks.OUTSIDE);
        x.hours(1);
        Checks.due("at a buoy", x.fateOf(0), CoalHulks.AT_BUOY);
        x.hours(2);
        Checks.due("gone short", x.fateOf(1), CoalHulks.GONE_SHORT);
        Checks.due("wanted when she left", x.wantOf(1), 7);
        x.hours(3);
        // Two hours load it, one casts off, two lead out, and the sixth and seventh empty it.
        Checks.due("80 less 1 have come", x.wantOf(0), 500 - 79);
        x.hours(1);
        Checks.due("and 20 more", x.wantOf(0), 500 - 99);
        for (int number : new int[] {3, -1, 511, 512, Integer.MIN_VALUE, Integer.MAX_VALUE}) {
            Checks.refusedNumber("fateOf(" + number + ")", () -> x.fateOf(number));
            Checks.refusedNumber("wantOf(" + number + ")", () -> x.wantOf(number));
        }
    }

    private static void outsideFollowsTheQueue() {
        CoalHulks x = new CoalHulks();
        for (int i = 0; i < 5; i++) {
            x.steamer(10, i == 3 ? 2 : 20);
        }
        Checks.due("outside(4)", x.outside(4), 4);
        Checks.due("outside(5)", x.outside(5), -1);
        x.hours(1);
        Checks.due("the next", x.outside(0), 2);
        Checks.due("the second", x.outside(1), 3);
        Checks.due("the third", x.outside(2), 4);
        Checks.due("no fourth", x.outside(3), -1);
        x.hours(1);
        Checks.due("behind one who left: the next", x.outside(0), 2);
        Checks.due("the second then", x.outside(1), 4);
        Checks.due("no third", x.outside(2), -1);
        Checks.due("far behind", x.outside(Integer.MAX_VALUE), -1);
        Checks.refusedRange("outside(-1)", () -> x.outside(-1));
        Checks.refusedRange("outside(least int)", () -> x.outside(Integer.MIN_VALUE));
    }

    private static void deliveredLeavesDustOut() {
        CoalHulks x = station();
        x.hours(5);
        Checks.due("on the way", x.delivered(), 0);
        x.hours(1);
        Checks.due("80 less 1", x.delivered(), 79);
        x.hours(1);
        Checks.due("and 20", x.delivered(), 99);
        Checks.due("dust", x.dustIn(0), 2);
        x.hours(500);
        Checks.due("who goes short keeps it", x.delivered(), 99);
    }

    private static void answersChangeNothing() {
        CoalHulks x = station();
        x.hours(4);
        long before = state(x);
        Checks.due("asked twice", state(x), before);
        CoalHulks y = station();
        y.hours(4);
        Checks.due("another by the same calls", state(y), before);
        x.hours(20);
        y.hours(20);
        Checks.due("asked or not", state(x), state(y));
    }

    private static long state(CoalHulks x) {
        long sum = x.clock() * 31L + x.delivered();
        for (int i = 0; i < 2; i++) {
            sum = sum * 31 + x.coalIn(i);
            sum = sum * 31 + x.placeOf(i);
            sum = sum * 31 + x.loadOf(i);
            sum = sum * 31 + x.dustIn(i);
            sum = sum * 31 + x.gangOn(i);
            sum = sum * 31 + x.restOf(i);
            sum = sum * 31 + x.fateOf(i);
            sum = sum * 31 + x.wantOf(i);
            sum = sum * 31 + x.outside(i);
        }
        return sum;
    }
}
