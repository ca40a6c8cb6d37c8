/** Promises 6 to 8: order, shift and sweep. */
final class OrdersTest {
    public static void main(String[] args) {
        orderPutsAGangAboard();
        orderRefusesNoSuchNumber();
        orderRefusesStates();
        orderRefusesAGangThatRests();
        orderRefusesASteamerThatLeft();
        orderStartsFromTheHulkWhereItLies();
        shiftRefuses();
        shiftToTheSameHulkIsNothing();
        shiftTakesTheLoadAlong();
        sweepPutsDustIntoTheHulk();
        sweepRefuses();
        sweepCountsFromNought();
        Checks.end();
    }

    /** Two hulks of 1000, lighters of 100, gangs of 10 men, and a steamer. */
    private static CoalHulks station() {
        CoalHulks x = new CoalHulks();
        x.hulk(1000);
        x.hulk(1000);
        x.lighter(100);
        x.lighter(100);
        x.gang(10);
        x.gang(10);
        x.steamer(500, 100);
        return x;
    }

    private static void orderPutsAGangAboard() {
        CoalHulks x = station();
        x.order(1, 0, 0);
        Checks.due("gangOn(1)", x.gangOn(1), 0);
        Checks.due("gangOn(0)", x.gangOn(0), -1);
        Checks.due("clock stands", x.clock(), 0);
        Checks.due("coal stands", x.coalIn(0), 1000);
        x.order(0, 1, 0);
        Checks.due("gangOn(0) then", x.gangOn(0), 1);
        x.hours(1);
        Checks.due("load 0", x.loadOf(0), 40);
        Checks.due("load 1", x.loadOf(1), 40);
        Checks.due("coal of both", x.coalIn(0), 920);
    }

    private static void orderRefusesNoSuchNumber() {
        CoalHulks x = station();
        Checks.refusedNumber("no lighter 2", () -> x.order(2, 0, 0));
        Checks.refusedNumber("no gang 2", () -> x.order(0, 2, 0));
        Checks.refusedNumber("no steamer 1", () -> x.order(0, 0, 1));
        Checks.refusedNumber("no lighter -1", () -> x.order(-1, 0, 0));
        Checks.refusedNumber("no gang -1", () -> x.order(0, -1, 0));
        Checks.refusedNumber("no steamer -1", () -> x.order(0, 0, -1));
        Checks.due("no order from these", x.gangOn(0), -1);
        x.order(0, 0, 0);
        Checks.refusedNumber("a number goes before a state", () -> x.order(0, 0, 1));
        Checks.refusedNumber("a number goes before a state", () -> x.order(0, 6, 0));
    }

    private static void orderRefusesStates() {
        CoalHulks x = station();
        x.order(0, 0, 0);
        Checks.refusedState("the lighter has an order", () -> x.order(0, 1, 0));
        Checks.refusedState("the gang has an order", () -> x.order(1, 0, 0));
        Checks.due("the first order stands", x.gangOn(0), 0);
        Checks.due("the refused one is none", x.gangOn(1), -1);
        x.order(1, 1, 0);
        Checks.due("the free ones go", x.gangOn(1), 1);
    }

    private static void orderRefusesAGangThatRests() {
        CoalHulks x = station();
        x.sweep(0, 0);
        Checks.refusedState("the gang rests", () -> x.order(0, 0, 0));
        x.hours(7);
        Checks.due("restOf behind 7 hours", x.restOf(0), 1);
        Checks.refusedState("the gang rests still", () -> x.order(0, 0, 0));
        x.hours(1);
        Checks.due("restOf behind 8 hours", x.restOf(0), 0);
        x.order(0, 0, 0);
        Checks.due("it goes", x.gangOn(0), 0);
    }

    private static void orderRefusesASteamerThatLeft() {
        CoalHulks x = station();
        x.steamer(1, 1);
        x.hours(1);
        Checks.refusedState("gone short", () -> x.order(0, 0, 1));
        x.steamer(4, 100);
        x.order(0, 0, 2);
        x.hours(7);
        Checks.due("filled", x.fateOf(2), CoalHulks.FILLED);
        Checks.refusedState("filled", () -> x.order(1, 1, 2));
        x.order(1, 1, 0);
        Checks.due("at a buoy", x.gangOn(1), 1);
    }

    private static void orderStartsFromTheHulkWhereItLies() {
        CoalHulks x = station();
        x.shift(0, 1);
        x.order(0, 0, 0);
        x.hours(1);
        Checks.due("not from the hulk 0", x.coalIn(0), 1000);
        Checks.due("but from the hulk 1", x.coalIn(1), 960);
        x.hours(40);
        Checks.due("home again", x.gangOn(0), -1);
        x.order(0, 0, 0);
        x.hours(1);
        Checks.due("and from the hulk 1 again", x.coalIn(1), 860);
    }

    private static void shiftRefuses() {
        CoalHulks x = station();
        Checks.refusedNumber("no lighter 2", () -> x.shift(2, 0));
        Checks.refusedNumber("no hulk 2", () -> x.shift(0, 2));
        Checks.refusedNumber("no lighter -1", () -> x.shift(-1, 0));
        Checks.refusedNumber("no hulk -1", () -> x.shift(0, -1));
        x.order(0, 0, 0);
        Checks.refusedState("the lighter has an order", () -> x.shift(0, 1));
        Checks.refusedNumber("a number goes before a state", () -> x.shift(0, 2));
        x.hours(1);
        Checks.due("it has stayed", x.coalIn(0), 960);
    }

    private static void shiftToTheSameHulkIsNothing() {
        CoalHulks x = station();
        x.shift(0, 0);
        x.order(0, 0, 0);
        x.hours(1);
        Checks.due("coal of the hulk 0", x.coalIn(0), 960);
        Checks.due("clock", x.clock(), 1);
    }

    private static void shiftTakesTheLoadAlong() {
        CoalHulks x = station();
        x.steamer(9, 1);
        x.order(0, 0, 1);
        x.hours(1);
        Checks.due("the order is over", x.gangOn(0), -1);
        x.shift(0, 1);
        Checks.due("the load stays", x.loadOf(0), 40);
        Checks.due("the clock stands", x.clock(), 1);
        x.order(0, 0, 0);
        x.hours(1);
        Checks.due("the load grows", x.loadOf(0), 80);
        Checks.due("from the hulk 1", x.coalIn(1), 960);
        Checks.due("not from the hulk 0", x.coalIn(0), 960);
    }

    /** A lighter of 500 with 6 of dust and 494 of 500 loaded from the hulk 1, its steamer gone short. */
    private static CoalHulks dusty() {
        CoalHulks x = new CoalHulks();
        x.hulk(0);
        x.hulk(19999);
        x.lighter(500);
        x.shift(0, 1);
        x.gang(20);
        x.gang(1);
        x.steamer(9999, 6);
        x.steamer(9999, 500);
        x.order(0, 0, 0);
        // Six hours of 80, 80, 80, 80, 80 and, behind 5 of dust, 79: each grinds 1.
        x.hours(6);
        return x;
    }

    private static void sweepPutsDustIntoTheHulk() {
        CoalHulks x = dusty();
        Checks.due("load", x.loadOf(0), 473);
        Checks.due("dust", x.dustIn(0), 6);
        Checks.due("coal", x.coalIn(1), 19999 - 479);
        x.shift(0, 0);
        Checks.due("sweep", x.sweep(0, 1), 6);
        Checks.due("dust then", x.dustIn(0), 0);
        Checks.due("into the hulk where it lies", x.coalIn(0), 6);
        Checks.due("not into the other", x.coalIn(1), 19999 - 479);
        Checks.due("the load stays", x.loadOf(0), 473);
        Checks.due("the sweepers rest", x.restOf(1), 8);
        Checks.due("others do not", x.restOf(0), 0);
        Checks.due("the clock stands", x.clock(), 6);
        Checks.due("swept again", x.sweep(0, 0), 0);
        Checks.due("for nothing they rest, too", x.restOf(0), 8);
    }

    private static void sweepRefuses() {
        CoalHulks x = dusty();
        Checks.refusedNumber("no lighter 1", () -> x.sweep(1, 0));
        Checks.refusedNumber("no gang 2", () -> x.sweep(0, 2));
        Checks.refusedNumber("no lighter -1", () -> x.sweep(-1, 0));
        Checks.refusedNumber("no gang -1", () -> x.sweep(0, -1));
        x.lighter(20);
        x.order(0, 0, 1);
        Checks.refusedState("the lighter has an order", () -> x.sweep(0, 1));
        Checks.refusedState("the gang has an order", () -> x.sweep(1, 0));
        Checks.refusedNumber("a number goes before a state", () -> x.sweep(0, 2));
        x.sweep(1, 1);
        Checks.refusedState("the gang rests", () -> x.sweep(1, 1));
        Checks.due("the dust stays", x.dustIn(0), 6);
        Checks.due("the rest stays", x.restOf(1), 8);
    }

    private static void sweepCountsFromNought() {
        CoalHulks x = dusty();
        // The six hours of gang 0 are forgotten by the sweeping, so two more don't tire it.
        x.sweep(0, 0);
        x.hours(8);
        x.shift(0, 0);
        x.steamer(5, 2);
        x.order(0, 0, 2);
        x.hours(2);
        Checks.due("the order is over", x.fateOf(2), CoalHulks.GONE_SHORT);
        x.hours(1);
        Checks.due("it is home", x.gangOn(0), -1);
        Checks.due("free at once", x.restOf(0), 0);
    }
}
