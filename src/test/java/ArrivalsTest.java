/** Promises 1 to 5: a new object, hulk, lighter, gang and steamer. */
final class ArrivalsTest {
    public static void main(String[] args) {
        newObjectIsBare();
        hulksComeUpToThree();
        hulkRefusesCoalOutOfRange();
        lightersComeUpToSix();
        lighterRefusesHoldOutOfRange();
        lighterWantsAHulk();
        gangsComeUpToSix();
        gangRefusesMenOutOfRange();
        steamersWaitOutside();
        steamerRefusesOutOfRange();
        eightSteamersWaitOutside();
        steamersAreNumberedOn();
        objectsAreApart();
        Checks.end();
    }

    private static void newObjectIsBare() {
        CoalHulks x = new CoalHulks();
        Checks.due("new: clock", x.clock(), 0);
        Checks.due("new: delivered", x.delivered(), 0);
        Checks.due("new: outside(0)", x.outside(0), -1);
        Checks.refusedNumber("new: coalIn(0)", () -> x.coalIn(0));
        Checks.refusedNumber("new: placeOf(0)", () -> x.placeOf(0));
        Checks.refusedNumber("new: restOf(0)", () -> x.restOf(0));
        Checks.refusedNumber("new: fateOf(0)", () -> x.fateOf(0));
        Checks.refusedNumber("new: order(0, 0, 0)", () -> x.order(0, 0, 0));
        Checks.refusedNumber("new: shift(0, 0)", () -> x.shift(0, 0));
        Checks.refusedNumber("new: sweep(0, 0)", () -> x.sweep(0, 0));
        Checks.due("new: hours(500)", x.hours(500), 0);
    }

    private static void hulksComeUpToThree() {
        CoalHulks x = new CoalHulks();
        Checks.due("hulk(0)", x.hulk(0), 0);
        Checks.due("hulk(20000)", x.hulk(20000), 1);
        Checks.due("hulk(7)", x.hulk(7), 2);
        Checks.due("coalIn(0)", x.coalIn(0), 0);
        Checks.due("coalIn(1)", x.coalIn(1), 20000);
        Checks.due("coalIn(2)", x.coalIn(2), 7);
        Checks.refusedState("4th hulk", () -> x.hulk(7));
        Checks.refusedRange("4th hulk, out of range", () -> x.hulk(-1));
        Checks.refusedNumber("coalIn(3)", () -> x.coalIn(3));
    }

    private static void hulkRefusesCoalOutOfRange() {
        CoalHulks x = new CoalHulks();
        Checks.refusedRange("hulk(-1)", () -> x.hulk(-1));
        Checks.refusedRange("hulk(20001)", () -> x.hulk(20001));
        Checks.refusedRange("hulk(least int)", () -> x.hulk(Integer.MIN_VALUE));
        Checks.refusedRange("hulk(most int)", () -> x.hulk(Integer.MAX_VALUE));
        Checks.due("hulk after refused ones", x.hulk(1), 0);
    }

    private static void lightersComeUpToSix() {
        CoalHulks x = new CoalHulks();
        x.hulk(5);
        x.hulk(6);
        for (int i = 0; i < 6; i++) {
            Checks.due("lighter", x.lighter(i % 2 == 0 ? 20 : 500), i);
            Checks.due("its place", x.placeOf(i), CoalHulks.AT_HULK);
            Checks.due("its load", x.loadOf(i), 0);
            Checks.due("its dust", x.dustIn(i), 0);
            Checks.due("its gang", x.gangOn(i), -1);
        }
        Checks.refusedState("7th lighter", () -> x.lighter(100));
        Checks.refusedRange("7th lighter, out of range", () -> x.lighter(19));
        Checks.refusedNumber("placeOf(6)", () -> x.placeOf(6));
        lighterComesAtHulkNought(x);
    }

    private static void lighterComesAtHulkNought(CoalHulks x) {
        x.gang(1);
        x.steamer(9, 9);
        x.order(5, 0, 0);
        x.hours(1);
        Checks.due("shovelled from the hulk 0", x.coalIn(0), 1);
        Checks.due("not from the hulk 1", x.coalIn(1), 6);
    }

    private static void lighterRefusesHoldOutOfRange() {
        CoalHulks x = new CoalHulks();
        Checks.refusedRange("lighter(19) without a hulk", () -> x.lighter(19));
        x.hulk(5);
        Checks.refusedRange("lighter(19)", () -> x.lighter(19));
        Checks.refusedRange("lighter(501)", () -> x.lighter(501));
        Checks.refusedRange("lighter(-20)", () -> x.lighter(-20));
        Checks.due("lighter after refused ones", x.lighter(20), 0);
    }

    private static void lighterWantsAHulk() {
        CoalHulks x = new CoalHulks();
        Checks.refusedState("lighter without a hulk", () -> x.lighter(20));
        x.hulk(0);
        Checks.due("lighter with a hulk", x.lighter(20), 0);
    }

    private static void gangsComeUpToSix() {
        CoalHulks x = new CoalHulks();
        for (int i = 0; i < 6; i++) {
            Checks.due("gang", x.gang(i % 2 == 0 ? 1 : 20), i);
            Checks.due("it is rested", x.restOf(i), 0);
        }
        Checks.refusedState("7th gang", () -> x.gang(5));
        Checks.refusedRange("7th gang, out of range", () -> x.gang(0));
        Checks.refusedNumber("restOf(6)", () -> x.restOf(6));
    }

    private static void gangRefusesMenOutOfRange() {
        CoalHulks x = new CoalHulks();
        Checks.refusedRange("gang(0)", () -> x.gang(0));
        Checks.refusedRange("gang(21)", () -> x.gang(21));
        Checks.refusedRange("gang(-1)", () -> x.gang(-1));
        Checks.due("gang after refused ones", x.gang(20), 0);
    }

    private static void steamersWaitOutside() {
        CoalHulks x = new CoalHulks();
        Checks.due("steamer(1, 1)", x.steamer(1, 1), 0);
        Checks.due("steamer(9999, 500)", x.steamer(9999, 500), 1);
        Checks.due("she waits outside", x.fateOf(0), CoalHulks.OUTSIDE);
        Checks.due("the next, too", x.fateOf(1), CoalHulks.OUTSIDE);
        Checks.due("wantOf(0)", x.wantOf(0), 1);
        Checks.due("wantOf(1)", x.wantOf(1), 9999);
        Checks.due("outside(0)", x.outside(0), 0);
        Checks.due("outside(1)", x.outside(1), 1);
        Checks.due("outside(2)", x.outside(2), -1);
    }

    private static void steamerRefusesOutOfRange() {
        CoalHulks x = new CoalHulks();
        Checks.refusedRange("steamer(0, 1)", () -> x.steamer(0, 1));
        Checks.refusedRange("steamer(10000, 1)", () -> x.steamer(10000, 1));
        Checks.refusedRange("steamer(1, 0)", () -> x.steamer(1, 0));
        Checks.refusedRange("steamer(1, 501)", () -> x.steamer(1, 501));
        Checks.refusedRange("steamer(-5, -5)", () -> x.steamer(-5, -5));
        Checks.due("steamer after refused ones", x.steamer(1, 1), 0);
    }

    private static void eightSteamersWaitOutside() {
        CoalHulks x = new CoalHulks();
        for (int i = 0; i < 8; i++) {
            Checks.due("steamer", x.steamer(10, 20), i);
        }
        Checks.refusedState("9th outside", () -> x.steamer(10, 20));
        Checks.refusedRange("9th outside, out of range", () -> x.steamer(10, 0));
        Checks.due("outside(7)", x.outside(7), 7);
        x.hours(1);
        Checks.due("two have taken buoys", x.steamer(10, 20), 8);
        Checks.due("and one more", x.steamer(10, 20), 9);
        Checks.refusedState("8 outside again", () -> x.steamer(10, 20));
    }

    private static void steamersAreNumberedOn() {
        CoalHulks x = new CoalHulks();
        for (int i = 0; i < 120; i++) {
            Checks.due("steamer", x.steamer(10, 1), i);
            Checks.due("she leaves", x.hours(1), 1);
            Checks.due("her fate", x.fateOf(i), CoalHulks.GONE_SHORT);
        }
        Checks.due("the first one's fate", x.fateOf(0), CoalHulks.GONE_SHORT);
    }

    private static void objectsAreApart() {
        CoalHulks x = new CoalHulks();
        x.hulk(5);
        x.steamer(1, 1);
        x.hours(1);
        CoalHulks y = new CoalHulks();
        Checks.due("another clock", y.clock(), 0);
        Checks.refusedNumber("another hulk", () -> y.coalIn(0));
        Checks.due("another steamer", y.steamer(1, 1), 0);
    }
}
