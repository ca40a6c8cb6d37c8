import java.util.function.BiConsumer;

/** The boundary cases of promises 6 to 8; the remark of a test quotes the sentence that it holds. */
final class OrderBoundsTest {
    private static final int[] NONE_OF_FIVE = {5, 6, -1, Integer.MIN_VALUE, Integer.MAX_VALUE};
    private static final int[] NONE_OF_FOUR = {4, -1, 511, Integer.MIN_VALUE, Integer.MAX_VALUE};
    private static final int[] NONE_OF_TWO = {2, 3, -1, Integer.MIN_VALUE, Integer.MAX_VALUE};

    public static void main(String[] args) {
        orderTakesTheLastNumberAndNoneBeyond();
        orderRefusesALighterWithAnOrder();
        orderRefusesAGangWithAnOrder();
        orderRefusesAGangThatRests();
        orderRefusesASteamerThatHasLeft();
        orderTakesASteamerOutside();
        orderMayFollowInTheHourBehind();
        oneSteamerMayHaveManyLighters();
        orderTakesNoTime();
        shiftTakesTheLastNumberAndNoneBeyond();
        shiftRefusesALighterWithAnOrder();
        shiftIsAtOnce();
        shiftBackAndForthLosesNothing();
        sweepTakesTheLastNumberAndNoneBeyond();
        sweepRefusesALighterWithAnOrder();
        sweepRefusesAGangWithAnOrderOrRest();
        sweepOfNoDustRestsTheGang();
        sweepGoesIntoTheHulkWhereItLies();
        sweepGoesIntoAFullHulk();
        sweptDustIsCoal();
        sweepersRestFor8Hours();
        sweepersCountFrom0();
        Checks.end();
    }

    private static void allNumbers(String call, int[] numbers, BiConsumer<CoalHulks, Integer> refused) {
        for (int number : numbers) {
            Untouched.byNumber(call + " with " + number, Stations::busy, x -> refused.accept(x, number));
        }
    }

    /** 6: "Throws IndexOutOfBoundsException if there is no such lighter, gang or steamer". */
    private static void orderTakesTheLastNumberAndNoneBeyond() {
        allNumbers("order, no lighter", NONE_OF_FIVE, (x, i) -> x.order(i, 2, 0));
        allNumbers("order, no gang", NONE_OF_FIVE, (x, i) -> x.order(2, i, 0));
        allNumbers("order, no steamer", NONE_OF_FOUR, (x, i) -> x.order(2, 2, i));
        CoalHulks x = Stations.busy();
        x.gang(20);
        x.steamer(1, 1);
        x.order(4, 5, 4);
        Checks.due("the last of each", x.gangOn(4), 5);
    }

    /** 6: "Throws IllegalStateException if the lighter has an order", wherever it is. */
    private static void orderRefusesALighterWithAnOrder() {
        Untouched.byState("order, at the steamer", Stations::busy, x -> x.order(0, 2, 0));
        Untouched.byState("order, outward", Stations::busy, x -> x.order(1, 2, 0));
        Untouched.byState("order, at the hulk", Stations::busy, x -> x.order(3, 2, 0));
        Untouched.byState("order, homeward", Stations::busyLater, x -> x.order(0, 2, 0));
        Untouched.byState("the same order again", Stations::busy, x -> x.order(3, 3, 2));
        CoalHulks x = Stations.busy();
        x.order(2, 2, 0);
        Checks.due("a lighter without one", x.gangOn(2), 2);
    }

    /** 6: "Throws IllegalStateException if [..] the gang has one". */
    private static void orderRefusesAGangWithAnOrder() {
        Untouched.byState("order, gang at the steamer", Stations::busy, x -> x.order(2, 0, 0));
        Untouched.byState("order, gang outward", Stations::busy, x -> x.order(2, 1, 0));
        Untouched.byState("order, gang at the hulk", Stations::busy, x -> x.order(2, 3, 0));
        Untouched.byState("order, gang homeward", Stations::busyLater, x -> x.order(2, 0, 0));
    }

    /** 6: "Throws IllegalStateException if the gang [..] rests"; Terms: "it rests for 8 hours". */
    private static void orderRefusesAGangThatRests() {
        Untouched.byState("order, gang rests for 7", Stations::busy, x -> x.order(2, 4, 0));
        Untouched.byState("order, gang rests for 6", Stations::busyLater, x -> x.order(2, 4, 0));
        CoalHulks x = Stations.busy();
        x.hours(6);
        Checks.due("the last hour of its rest", x.restOf(4), 1);
        Checks.refusedState("still", () -> x.order(2, 4, 0));
        x.hours(1);
        Checks.due("no more", x.restOf(4), 0);
        x.order(2, 4, 0);
        Checks.due("it goes", x.gangOn(2), 4);
    }

    /** 6: "Throws IllegalStateException if [..] the steamer has left", short or filled. */
    private static void orderRefusesASteamerThatHasLeft() {
        Untouched.byState("order, gone short", Stations::busy, x -> x.order(2, 2, 3));
        Untouched.byState("order, filled", OrderBoundsTest::oneFilled, x -> x.order(0, 1, 0));
        CoalHulks x = new CoalHulks();
        x.hulk(100);
        x.lighter(20);
        x.gang(1);
        x.steamer(9, 3);
        x.hours(2);
        x.order(0, 0, 0);
        Checks.due("she has an hour's patience left", x.gangOn(0), 0);
        Checks.due("and leaves", x.hours(1), 1);
        Checks.due("the order is over", x.gangOn(0), -1);
        Checks.refusedState("she has left", () -> x.order(0, 0, 0));
    }

    /** A steamer filled behind 5 hours, her lighter at home behind 7. */
    private static CoalHulks oneFilled() {
        CoalHulks x = new CoalHulks();
        x.hulk(100);
        x.lighter(20);
        x.gang(5);
        x.gang(5);
        x.steamer(20, 500);
        x.order(0, 0, 0);
        x.hours(7);
        return x;
    }

    /** 6: "to a steamer, who may still wait outside". */
    private static void orderTakesASteamerOutside() {
        CoalHulks x = Stations.busy();
        Checks.due("outside", x.fateOf(2), CoalHulks.OUTSIDE);
        x.order(2, 2, 2);
        Checks.due("ordered", x.gangOn(2), 2);
        CoalHulks y = Stations.busy();
        Checks.due("at a buoy", y.fateOf(1), CoalHulks.AT_BUOY);
        y.order(2, 2, 1);
        Checks.due("ordered, too", y.gangOn(2), 2);
    }

    /** Terms: "behind it the lighter lies at its hulk, and its order is over": from then on it takes another. */
    private static void orderMayFollowInTheHourBehind() {
        CoalHulks x = Stations.busyLater();
        Checks.due("homeward", x.placeOf(0), CoalHulks.HOMEWARD);
        Checks.refusedState("not yet", () -> x.order(0, 2, 0));
        x.hours(1);
        Checks.due("home", x.placeOf(0), CoalHulks.AT_HULK);
        x.order(0, 0, 0);
        Checks.due("the gang is free at once with 7 hours", x.gangOn(0), 0);
    }

    /** 6: nothing refuses a second lighter to the same steamer. */
    private static void oneSteamerMayHaveManyLighters() {
        CoalHulks x = new CoalHulks();
        x.hulk(1000);
        x.steamer(120, 500);
        for (int i = 0; i < 6; i++) {
            x.lighter(20);
            x.gang(5);
            x.order(i, i, 0);
        }
        Checks.due("filled by all six", x.hours(5), 1);
        Checks.due("delivered", x.delivered(), 120);
    }

    /** 6: an order is given; the work waits for hours(). */
    private static void orderTakesNoTime() {
        CoalHulks x = Stations.busy();
        int coal = x.coalIn(0);
        x.order(2, 2, 0);
        Checks.due("clock", x.clock(), 5);
        Checks.due("coal", x.coalIn(0), coal);
        Checks.due("load", x.loadOf(2), 0);
        Checks.due("place", x.placeOf(2), CoalHulks.AT_HULK);
        Checks.due("rest", x.restOf(2), 0);
    }

    /** 7: "Throws IndexOutOfBoundsException if there is no such lighter or hulk". */
    private static void shiftTakesTheLastNumberAndNoneBeyond() {
        allNumbers("shift, no lighter", NONE_OF_FIVE, (x, i) -> x.shift(i, 0));
        allNumbers("shift, no hulk", NONE_OF_TWO, (x, i) -> x.shift(2, i));
        CoalHulks x = Stations.busy();
        x.shift(4, 1);
        Checks.refusedNumber("before the third hulk comes", () -> x.shift(4, 2));
        x.hulk(77);
        x.shift(4, 2);
        x.order(4, 2, 0);
        x.hours(1);
        Checks.due("at the last hulk", x.coalIn(2), 77 - 40);
    }

    /** 7: "Throws IllegalStateException if the lighter has an order", wherever it is. */
    private static void shiftRefusesALighterWithAnOrder() {
        Untouched.byState("shift, at the steamer", Stations::busy, x -> x.shift(0, 1));
        Untouched.byState("shift, outward", Stations::busy, x -> x.shift(1, 1));
        Untouched.byState("shift, at the hulk", Stations::busy, x -> x.shift(3, 0));
        Untouched.byState("shift, homeward", Stations::busyLater, x -> x.shift(0, 1));
        Untouched.byState("shift to its own hulk", Stations::busy, x -> x.shift(3, 1));
        CoalHulks x = Stations.busyLater();
        x.hours(1);
        x.shift(0, 1);
        x.order(0, 0, 0);
        x.hours(1);
        Checks.due("home again it may be shifted", x.loadOf(0), 20);
    }

    /** 7: "Shifts a lighter without an order to another hulk, at once." */
    private static void shiftIsAtOnce() {
        CoalHulks x = new CoalHulks();
        x.hulk(100);
        x.hulk(200);
        x.lighter(40);
        x.gang(10);
        x.steamer(500, 500);
        x.shift(0, 1);
        Checks.due("no hour goes by", x.clock(), 0);
        Checks.due("at a hulk", x.placeOf(0), CoalHulks.AT_HULK);
        x.order(0, 0, 0);
        x.hours(1);
        Checks.due("the first hour shovels from there", x.coalIn(1), 160);
        Checks.due("and from no other", x.coalIn(0), 100);
    }

    /** 7: a shift moves load and dust along, and changes nothing else. */
    private static void shiftBackAndForthLosesNothing() {
        Untouched.byAnswer("shifted there and back", OrderBoundsTest::dusty, x -> {
            x.shift(0, 1);
            x.shift(0, 0);
        });
        Untouched.byAnswer("shifted to where it lies", OrderBoundsTest::dusty, x -> x.shift(0, 0));
    }

    /** A lighter with 237 of load and 3 of dust at the hulk 0, without an order; its gang 0 counts 3. */
    private static CoalHulks dusty() {
        CoalHulks x = new CoalHulks();
        x.hulk(10000);
        x.hulk(20000);
        x.hulk(0);
        x.lighter(500);
        x.lighter(500);
        x.gang(20);
        x.gang(1);
        x.steamer(9999, 3);
        x.steamer(9999, 500);
        x.order(0, 0, 0);
        x.hours(3);
        return x;
    }

    /** 8: "Throws IndexOutOfBoundsException if there is no such lighter or gang". */
    private static void sweepTakesTheLastNumberAndNoneBeyond() {
        allNumbers("sweep, no lighter", NONE_OF_FIVE, (x, i) -> x.sweep(i, 2));
        allNumbers("sweep, no gang", NONE_OF_FIVE, (x, i) -> x.sweep(2, i));
        CoalHulks x = Stations.busy();
        x.gang(1);
        Checks.due("the last of each", x.sweep(4, 5), 0);
        Checks.due("has swept", x.restOf(5), 8);
    }

    /** 8: "Throws IllegalStateException if the lighter has an order", wherever it is. */
    private static void sweepRefusesALighterWithAnOrder() {
        Untouched.byState("sweep, at the steamer", Stations::busy, x -> x.sweep(0, 2));
        Untouched.byState("sweep, outward", Stations::busy, x -> x.sweep(1, 2));
        Untouched.byState("sweep, at the hulk", Stations::busy, x -> x.sweep(3, 2));
        Untouched.byState("sweep, homeward", Stations::busyLater, x -> x.sweep(0, 2));
        Untouched.byState("sweep by its own gang", Stations::busy, x -> x.sweep(3, 3));
    }

    /** 8: "Throws IllegalStateException if [..] the gang has one or rests". */
    private static void sweepRefusesAGangWithAnOrderOrRest() {
        Untouched.byState("sweep, gang at the steamer", Stations::busy, x -> x.sweep(2, 0));
        Untouched.byState("sweep, gang outward", Stations::busy, x -> x.sweep(2, 1));
        Untouched.byState("sweep, gang at the hulk", Stations::busy, x -> x.sweep(2, 3));
        Untouched.byState("sweep, gang homeward", Stations::busyLater, x -> x.sweep(2, 0));
        Untouched.byState("sweep, gang rests", Stations::busy, x -> x.sweep(2, 4));
        CoalHulks x = Stations.busy();
        x.hours(6);
        Checks.due("the last hour of its rest", x.restOf(4), 1);
        Checks.refusedState("still", () -> x.sweep(2, 4));
        x.hours(1);
        Checks.due("no more", x.sweep(2, 4), 0);
    }

    /** 8: "Returns the dust." 0 of it; the gang "then rests for 8 hours" all the same. */
    private static void sweepOfNoDustRestsTheGang() {
        CoalHulks x = dusty();
        Checks.due("no dust", x.sweep(1, 1), 0);
        Checks.due("rest", x.restOf(1), 8);
        Checks.due("coal", x.coalIn(0), 10000 - 240);
        Checks.due("the other's dust", x.dustIn(0), 3);
    }

    /** 8: "the dust goes into the hulk at which it lies, as coal"; "Returns the dust." */
    private static void sweepGoesIntoTheHulkWhereItLies() {
        CoalHulks x = dusty();
        Checks.due("dust before", x.dustIn(0), 3);
        Checks.due("sweep", x.sweep(0, 1), 3);
        Checks.due("coal of the hulk 0", x.coalIn(0), 10000 - 237);
        Checks.due("coal of the hulk 1", x.coalIn(1), 20000);
        Checks.due("dust", x.dustIn(0), 0);
        Checks.due("load", x.loadOf(0), 237);
    }

    /** 8: the range of 0 to 20000 binds hulk()'s coal; no sentence refuses the dust of a full hulk. */
    private static void sweepGoesIntoAFullHulk() {
        CoalHulks x = dusty();
        x.shift(0, 1);
        Checks.due("sweep", x.sweep(0, 1), 3);
        Checks.due("coal of the hulk 1", x.coalIn(1), 20003);
        Checks.due("coal of the hulk 0", x.coalIn(0), 10000 - 240);
    }

    /** 8: "as coal": an empty hulk is empty no more, and the next order shovels from it. */
    private static void sweptDustIsCoal() {
        CoalHulks x = dusty();
        x.shift(1, 2);
        x.order(1, 1, 1);
        x.hours(1);
        Checks.due("an empty hulk ends the order", x.gangOn(1), -1);
        x.shift(0, 2);
        Checks.due("sweep", x.sweep(0, 0), 3);
        Checks.due("coal", x.coalIn(2), 3);
        x.order(1, 1, 1);
        x.hours(1);
        Checks.due("shovelled", x.loadOf(1), 3);
        Checks.due("empty again", x.coalIn(2), 0);
        Checks.due("under order", x.gangOn(1), 1);
    }

    /** 8: "who then rests for 8 hours": refused behind 7, taken behind 8. */
    private static void sweepersRestFor8Hours() {
        for (int hours = 1; hours <= 9; hours++) {
            CoalHulks x = dusty();
            x.sweep(0, 1);
            x.hours(hours);
            int due = hours < 8 ? 8 - hours : 0;
            Checks.due("rest behind " + hours, x.restOf(1), due);
            int got = Checks.answerOf(() -> x.sweep(0, 1));
            Checks.due("sweep behind " + hours, got, hours < 8 ? Checks.STATE : 0);
        }
    }

    /** 8: "and counts from 0 again": 7 hours before a sweep and 7 behind it don't tire, 8 do. */
    private static void sweepersCountFrom0() {
        for (int hours = 7; hours <= 8; hours++) {
            CoalHulks x = new CoalHulks();
            x.hulk(1000);
            x.lighter(500);
            x.gang(1);
            x.steamer(9, 7);
            x.order(0, 0, 0);
            x.hours(7);
            Checks.due("free", x.restOf(0), 0);
            x.sweep(0, 0);
            x.hours(8);
            x.steamer(9, hours);
            x.order(0, 0, 1);
            x.hours(hours);
            Checks.due("over", x.gangOn(0), -1);
            Checks.due("rest behind " + hours, x.restOf(0), hours < 8 ? 0 : 8);
        }
    }
}
