import java.util.function.BiConsumer;

/** The boundary cases of promises 10 to 20 and of "What it is"; the remark of a test quotes the sentence that it holds. */
final class AnswerBoundsTest {
    private static final int LEAST = Integer.MIN_VALUE, MOST = Integer.MAX_VALUE;
    private static final int CALLS = 512;

    public static void main(String[] args) {
        clockTellsTheHoursGoneBy();
        coalInRefusesNoSuchHulk();
        coalInTellsTheLastAndNone();
        lighterAnswersRefuseNoSuchLighter();
        placeOfTellsTheFourPlaces();
        loadOfLeavesDustOut();
        dustInTellsWhatIsGround();
        gangOnIsLessThan0WithoutAnOrder();
        restOfRefusesNoSuchGang();
        restOfIs0WithAnOrderOrFree();
        steamerAnswersRefuseNoSuchSteamer();
        fateOfTellsTheFourFates();
        wantOfTellsWhatSheWantedWhenSheLeft();
        outsideRefusesAPlaceBelow0();
        outsideTellsTheRow();
        deliveredLeavesDustOut();
        answersChangeNothing();
        the512thCallIsAnswered();
        steamersOf512Calls();
        ordersOf512Calls();
        Checks.end();
    }

    private static void refusedNumbers(String call, int[] numbers, BiConsumer<CoalHulks, Integer> ask) {
        for (int i : numbers) {
            Untouched.byNumber(call + "(" + i + ")", Stations::busy, x -> ask.accept(x, i));
        }
    }

    /** 10: "the hours that have gone by": from 0 on, and none by a refused call. */
    private static void clockTellsTheHoursGoneBy() {
        CoalHulks x = new CoalHulks();
        Checks.due("clock", x.clock(), 0);
        x.hours(1);
        Checks.due("clock behind 1", x.clock(), 1);
        x.hours(500);
        Checks.due("clock behind 501", x.clock(), 501);
        Checks.refusedRange("hours(0)", () -> x.hours(0));
        Checks.refusedRange("hours(501)", () -> x.hours(501));
        Checks.due("clock then", x.clock(), 501);
    }

    /** 11: "Throws IndexOutOfBoundsException if there is no such hulk". */
    private static void coalInRefusesNoSuchHulk() {
        refusedNumbers("coalIn", new int[] {2, 3, -1, LEAST, MOST}, (x, i) -> x.coalIn(i));
        CoalHulks x = Stations.full();
        Checks.due("the last of three", x.coalIn(2), 2500);
        Checks.refusedNumber("coalIn(3)", () -> x.coalIn(3));
    }

    /** 11: "Returns hundredweights.": all, the last one, and none. */
    private static void coalInTellsTheLastAndNone() {
        CoalHulks x = new CoalHulks();
        x.hulk(41);
        x.lighter(100);
        x.gang(10);
        x.steamer(9, 9);
        x.order(0, 0, 0);
        Checks.due("all", x.coalIn(0), 41);
        x.hours(1);
        Checks.due("the last one", x.coalIn(0), 1);
        x.hours(1);
        Checks.due("none", x.coalIn(0), 0);
        x.hours(1);
        Checks.due("never less", x.coalIn(0), 0);
    }

    /** 12 to 15: "Throws IndexOutOfBoundsException if there is no such lighter". */
    private static void lighterAnswersRefuseNoSuchLighter() {
        int[] numbers = {5, 6, -1, LEAST, MOST};
        refusedNumbers("placeOf", numbers, (x, i) -> x.placeOf(i));
        refusedNumbers("loadOf", numbers, (x, i) -> x.loadOf(i));
        refusedNumbers("dustIn", numbers, (x, i) -> x.dustIn(i));
        refusedNumbers("gangOn", numbers, (x, i) -> x.gangOn(i));
        CoalHulks x = Stations.full();
        Checks.due("placeOf the last of six", x.placeOf(5), CoalHulks.AT_HULK);
        Checks.due("loadOf the last of six", x.loadOf(5), 4);
        Checks.due("dustIn the last of six", x.dustIn(5), 0);
        Checks.due("gangOn the last of six", x.gangOn(5), 0);
        Checks.refusedNumber("placeOf(6)", () -> x.placeOf(6));
        Checks.refusedNumber("loadOf(6)", () -> x.loadOf(6));
        Checks.refusedNumber("dustIn(6)", () -> x.dustIn(6));
        Checks.refusedNumber("gangOn(6)", () -> x.gangOn(6));
    }

    /** 12: "Returns AT_HULK, OUTWARD, AT_STEAMER or HOMEWARD.": 0, 1, 2, 3. */
    private static void placeOfTellsTheFourPlaces() {
        CoalHulks x = Stations.busy();
        Checks.due("at the hulk under order", x.placeOf(3), 0);
        Checks.due("at the hulk without", x.placeOf(2), 0);
        Checks.due("outward", x.placeOf(1), 1);
        Checks.due("at the steamer", x.placeOf(0), 2);
        x.hours(1);
        Checks.due("at the steamer then", x.placeOf(1), 2);
        Checks.due("homeward", x.placeOf(0), 3);
        x.hours(1);
        Checks.due("at the hulk again", x.placeOf(0), 0);
    }

    /** 13: "The load of a lighter, without dust." */
    private static void loadOfLeavesDustOut() {
        CoalHulks x = grinding();
        Checks.due("new", x.loadOf(0), 0);
        x.hours(1);
        Checks.due("80 less 1", x.loadOf(0), 79);
        x.hours(1);
        Checks.due("160 less 2", x.loadOf(0), 158);
    }

    /** 14: "The dust in a lighter.": at the hulk and at the steamer, kept on the way, gone when swept. */
    private static void dustInTellsWhatIsGround() {
        CoalHulks x = grinding();
        int[] dusts = {1, 2, 2, 2, 2, 2, 3, 4, 4, 4};
        Checks.due("new", x.dustIn(0), 0);
        for (int i = 0; i < dusts.length; i++) {
            x.hours(1);
            Checks.due("dust behind hour " + (i + 1), x.dustIn(0), dusts[i]);
        }
        Checks.due("home", x.gangOn(0), -1);
        Checks.due("swept", x.sweep(0, 1), 4);
        Checks.due("none", x.dustIn(0), 0);
    }

    /** A gang of 20 men and a lighter of 160: 80, 80 and 2 fill it. */
    private static CoalHulks grinding() {
        CoalHulks x = new CoalHulks();
        x.hulk(1000);
        x.lighter(160);
        x.gang(20);
        x.gang(1);
        x.steamer(9999, 500);
        x.order(0, 0, 0);
        return x;
    }

    /** 15: "Returns the gang; -1 if it has no order." */
    private static void gangOnIsLessThan0WithoutAnOrder() {
        CoalHulks x = Stations.busyLater();
        Checks.due("homeward", x.gangOn(0), 0);
        Checks.due("at the steamer", x.gangOn(1), 1);
        Checks.due("never ordered", x.gangOn(2), -1);
        Checks.due("at the hulk", x.gangOn(3), 3);
        Checks.due("swept", x.gangOn(4), -1);
        x.hours(1);
        Checks.due("home", x.gangOn(0), -1);
        x.order(0, 2, 0);
        Checks.due("another", x.gangOn(0), 2);
    }

    /** 16: "Throws IndexOutOfBoundsException if there is no such gang". */
    private static void restOfRefusesNoSuchGang() {
        refusedNumbers("restOf", new int[] {5, 6, -1, LEAST, MOST}, (x, i) -> x.restOf(i));
        CoalHulks x = Stations.full();
        Checks.due("the last of six", x.restOf(5), 0);
        Checks.refusedNumber("restOf(6)", () -> x.restOf(6));
    }

    /** 16: "Returns 0 if it could be ordered, or has an order.": with more than 8 hours as well. */
    private static void restOfIs0WithAnOrderOrFree() {
        CoalHulks x = Stations.busy();
        Checks.due("could be ordered", x.restOf(2), 0);
        Checks.due("has an order", x.restOf(3), 0);
        Checks.due("rests", x.restOf(4), 7);
        x.hours(6);
        Checks.due("11 hours under order", x.restOf(3), 0);
        Checks.due("rests an hour more", x.restOf(4), 1);
        x.hours(1);
        Checks.due("rests no more", x.restOf(4), 0);
    }

    /** 17, 18: "Throws IndexOutOfBoundsException if there is no such steamer". */
    private static void steamerAnswersRefuseNoSuchSteamer() {
        int[] numbers = {4, 5, -1, 511, 512, LEAST, MOST};
        refusedNumbers("fateOf", numbers, (x, i) -> x.fateOf(i));
        refusedNumbers("wantOf", numbers, (x, i) -> x.wantOf(i));
        CoalHulks x = Stations.busy();
        Checks.due("fateOf the last", x.fateOf(3), CoalHulks.GONE_SHORT);
        Checks.due("wantOf the last", x.wantOf(3), 7);
        x.steamer(8, 8);
        Checks.due("fateOf a new one", x.fateOf(4), CoalHulks.OUTSIDE);
        Checks.due("wantOf a new one", x.wantOf(4), 8);
        Checks.refusedNumber("fateOf(5)", () -> x.fateOf(5));
        Checks.refusedNumber("wantOf(5)", () -> x.wantOf(5));
    }

    /** 17: "Returns OUTSIDE, AT_BUOY, FILLED or GONE_SHORT.": 0, 1, 2, 3. */
    private static void fateOfTellsTheFourFates() {
        CoalHulks x = new CoalHulks();
        x.hulk(20);
        x.lighter(20);
        x.gang(5);
        x.steamer(20, 9);
        x.steamer(20, 5);
        x.steamer(20, 9);
        x.order(0, 0, 0);
        Checks.due("arrived", x.fateOf(0), 0);
        x.hours(4);
        Checks.due("at a buoy", x.fateOf(0), 1);
        Checks.due("at the other", x.fateOf(1), 1);
        Checks.due("outside", x.fateOf(2), 0);
        x.hours(1);
        Checks.due("filled", x.fateOf(0), 2);
        Checks.due("gone short", x.fateOf(1), 3);
        Checks.due("outside still", x.fateOf(2), 0);
        x.hours(500);
        Checks.due("filled for ever", x.fateOf(0), 2);
        Checks.due("gone short for ever", x.fateOf(1), 3);
        Checks.due("gone short, too", x.fateOf(2), 3);
    }

    /** 18: "What a steamer still wants, or wanted when she left." */
    private static void wantOfTellsWhatSheWantedWhenSheLeft() {
        CoalHulks x = new CoalHulks();
        x.hulk(60);
        x.lighter(60);
        x.gang(5);
        x.steamer(41, 7);
        x.steamer(9999, 3);
        x.order(0, 0, 0);
        x.hours(6);
        Checks.due("still", x.wantOf(0), 41);
        Checks.due("never served", x.wantOf(1), 9999);
        x.hours(1);
        Checks.due("short of 21", x.wantOf(0), 21);
        Checks.due("gone", x.fateOf(0), CoalHulks.GONE_SHORT);
        x.hours(500);
        Checks.due("as she left", x.wantOf(0), 21);
    }

    /** 19: "Throws IllegalArgumentException if place is below 0". */
    private static void outsideRefusesAPlaceBelow0() {
        for (int place : new int[] {-1, -2, LEAST, LEAST + 1}) {
            Untouched.byRange("bare: outside(" + place + ")", CoalHulks::new, x -> x.outside(place));
            Untouched.byRange("outside(" + place + ")", Stations::busy, x -> x.outside(place));
            Untouched.byRange("full: outside(" + place + ")", Stations::full, x -> x.outside(place));
        }
        Checks.due("outside(0)", Stations.busy().outside(0), 2);
    }

    /** 19: "0 for the one who takes the next free buoy"; "Returns her number; -1 if not so many wait." */
    private static void outsideTellsTheRow() {
        CoalHulks bare = new CoalHulks();
        Checks.due("nobody", bare.outside(0), -1);
        Checks.due("nobody at a great place", bare.outside(MOST), -1);
        CoalHulks x = Stations.full();
        for (int i = 0; i < 8; i++) {
            Checks.due("outside(" + i + ")", x.outside(i), i + 2);
        }
        for (int place : new int[] {8, 9, 10, 512, MOST}) {
            Checks.due("outside(" + place + ")", x.outside(place), -1);
        }
        int next = x.outside(0);
        x.hours(19);
        Checks.due("steamer 0 has left", x.fateOf(0), CoalHulks.GONE_SHORT);
        Checks.due("her buoy is not taken yet", x.outside(0), next);
        x.hours(1);
        Checks.due("it is taken by who was at 0", x.fateOf(next), CoalHulks.AT_BUOY);
        Checks.due("the row moves up", x.outside(0), next + 1);
        Checks.due("the last of seven", x.outside(6), 9);
        Checks.due("no eighth", x.outside(7), -1);
    }

    /** 20: "The coal that got into steamers so far, without what became dust.", of all steamers, gone or not. */
    private static void deliveredLeavesDustOut() {
        CoalHulks x = grinding();
        x.hours(6);
        Checks.due("on the way", x.delivered(), 0);
        x.hours(1);
        Checks.due("80 less 1", x.delivered(), 79);
        x.hours(1);
        Checks.due("160 less 2", x.delivered(), 158);
        x.hours(500);
        Checks.due("stays when she has left", x.delivered(), 158);
        Checks.due("as she got it", 9999 - x.wantOf(0), 158);
    }

    /** 10 to 20 tell; what they are asked changes nothing. */
    private static void answersChangeNothing() {
        Untouched.byAnswer("busy, asked", Stations::busy, AnswerBoundsTest::askAll);
        Untouched.byAnswer("later, asked", Stations::busyLater, AnswerBoundsTest::askAll);
        Untouched.byAnswer("full, asked", Stations::full, AnswerBoundsTest::askAll);
    }

    private static void askAll(CoalHulks x) {
        x.clock();
        x.delivered();
        for (int i = 0; i < 2; i++) {
            x.coalIn(i);
            x.outside(i);
            x.outside(i + 8);
        }
        for (int i = 0; i < 4; i++) {
            x.placeOf(i);
            x.loadOf(i);
            x.dustIn(i);
            x.gangOn(i);
            x.restOf(i);
            x.fateOf(i);
            x.wantOf(i);
        }
    }

    /** "An object is used for at most 512 calls after it has been made": the longest clock is told. */
    private static void the512thCallIsAnswered() {
        CoalHulks x = new CoalHulks();
        for (int i = 1; i < CALLS; i++) {
            x.hours(500);
        }
        Checks.due("the 512th call", x.clock(), 511 * 500);
    }

    /** The same sentence: as many steamers as 512 calls bring, each remembered. */
    private static void steamersOf512Calls() {
        for (int asked = 0; asked < 455; asked += 65) {
            CoalHulks x = new CoalHulks();
            Checks.due("steamers", steamersOf511Calls(x), 455);
            Checks.due("wantOf(" + asked + ") by the 512th call", x.wantOf(asked), asked + 1);
        }
        CoalHulks last = new CoalHulks();
        steamersOf511Calls(last);
        Checks.due("wantOf(454) by the 512th call", last.wantOf(454), 455);
        CoalHulks none = new CoalHulks();
        steamersOf511Calls(none);
        Checks.refusedNumber("wantOf(455) by the 512th call", () -> none.wantOf(455));
        CoalHulks one = new CoalHulks();
        steamersOf511Calls(one);
        Checks.due("steamer by the 512th call", one.steamer(9999, 500), 455);
    }

    /** Eight arrive, an hour lets all of them leave, and so on. */
    private static int steamersOf511Calls(CoalHulks x) {
        int steamers = 0;
        for (int call = 1; call < CALLS; call++) {
            if (call % 9 == 0) {
                Checks.due("eight leave", x.hours(1), 8);
            } else {
                Checks.due("steamer", x.steamer(1 + steamers, 1), steamers);
                steamers++;
            }
        }
        return steamers;
    }

    /** The same sentence: 252 orders, each of an hour at an empty hulk, and a rest behind every eighth. */
    private static void ordersOf512Calls() {
        CoalHulks x = new CoalHulks();
        x.hulk(0);
        x.lighter(20);
        x.gang(1);
        x.steamer(1, 500);
        for (int i = 1; i <= 252; i++) {
            x.order(0, 0, 0);
            Checks.due("leave behind order " + i, x.hours(i % 8 == 0 ? 9 : 1), i < 252 ? 0 : 1);
        }
        Checks.due("the 509th call", x.clock(), 500);
        Checks.due("the 510th call", x.gangOn(0), -1);
        Checks.due("the 511th call", x.restOf(0), 0);
        Checks.due("the 512th call", x.fateOf(0), CoalHulks.GONE_SHORT);
    }
}
