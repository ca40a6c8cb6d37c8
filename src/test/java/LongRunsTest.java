import java.util.function.IntSupplier;

/** Runs of 512 calls by a fixed sequence of numbers, each answer against Roadstead's. */
final class LongRunsTest {
    private static final int RUNS = 4000;
    private static final int CALLS = 512;

    private long seed;
    private int run;
    private final int[] seen = new int[19];
    private final int[] refused = new int[19];

    public static void main(String[] args) {
        LongRunsTest all = new LongRunsTest();
        for (int i = 0; i < RUNS; i++) {
            all.oneRun(i);
        }
        all.everyCallWasUsed();
        Checks.end();
    }

    private int pick(int bound) {
        seed = seed * 6364136223846793005L + 1442695040888963407L;
        return (int) ((seed >>> 33) % bound);
    }

    /** A number from least to most, now and then just outside. */
    private int near(int least, int most) {
        int kind = pick(40);
        if (kind == 0) return least - 1;
        if (kind == 1) return most + 1;
        if (kind == 2) return least;
        if (kind == 3) return most;
        return most < least ? least : least + pick(most - least + 1);
    }

    private void oneRun(int number) {
        run = number;
        seed = number * 7919L + 17;
        CoalHulks x = new CoalHulks();
        Roadstead y = new Roadstead();
        // Small roadsteads and large ones, short and long hours, so that queues fill and empty.
        int longest = new int[] {1, 3, 12, 60}[pick(4)];
        int mostWant = new int[] {30, 400, 9999}[pick(3)];
        int mostCoal = new int[] {60, 900, 20000}[pick(3)];
        for (int i = 0; i < CALLS; i++) {
            oneCall(x, y, i < 25 ? pick(8) : pick(60), longest, mostWant, mostCoal);
        }
        Checks.due("run " + run + ": all coal", y.allCoal(), y.brought);
    }

    private void oneCall(CoalHulks x, Roadstead y, int kind, int longest, int mostWant, int mostCoal) {
        int l = near(0, y.lighters - 1);
        int g = near(0, y.gangs - 1);
        int h = near(0, y.hulks - 1);
        if (kind == 0) {
            int coal = pick(3) == 0 ? near(0, 20000) : near(0, mostCoal);
            same(0, y, () -> x.hulk(coal), y.hulk(coal));
        } else if (kind == 1) {
            int hold = near(20, pick(2) == 0 ? 60 : 500);
            same(1, y, () -> x.lighter(hold), y.lighter(hold));
        } else if (kind == 2) {
            int men = near(1, 20);
            same(2, y, () -> x.gang(men), y.gang(men));
        } else if (kind < 6) {
            int want = near(1, mostWant);
            int patience = near(1, pick(2) == 0 ? 20 : 500);
            same(3, y, () -> x.steamer(want, patience), y.steamer(want, patience));
        } else if (kind < 20) {
            int s = Math.max(near(0, y.steamers - 1), y.steamers - 1 - pick(11));
            same(4, y, () -> {
                x.order(l, g, s);
                return 0;
            }, y.order(l, g, s));
        } else if (kind < 22) {
            same(5, y, () -> {
                x.shift(l, h);
                return 0;
            }, y.shift(l, h));
        } else if (kind < 23) {
            same(6, y, () -> x.sweep(l, g), y.sweep(l, g));
        } else if (kind < 36) {
            int hours = pick(60) == 0 ? near(1, 500) : near(1, longest);
            same(7, y, () -> x.hours(hours), y.hours(hours));
        } else {
            ask(x, y, kind - 36, l, g, h);
        }
    }

    private void ask(CoalHulks x, Roadstead y, int kind, int l, int g, int h) {
        int s = near(0, y.steamers - 1);
        int p = near(0, 9);
        switch (kind % 11) {
            case 0: same(8, y, () -> x.clock(), y.now); break;
            case 1: same(9, y, () -> x.coalIn(h), y.coalIn(h)); break;
            case 2: same(10, y, () -> x.placeOf(l), y.ofLighter(y.place, l)); break;
            case 3: same(11, y, () -> x.loadOf(l), y.ofLighter(y.load, l)); break;
            case 4: same(12, y, () -> x.dustIn(l), y.ofLighter(y.dust, l)); break;
            case 5: same(13, y, () -> x.gangOn(l), y.ofLighter(y.crew, l)); break;
            case 6: same(14, y, () -> x.restOf(g), y.restOf(g)); break;
            case 7: same(15, y, () -> x.fateOf(s), y.ofSteamer(y.fate, s)); break;
            case 8: same(16, y, () -> x.wantOf(s), y.ofSteamer(y.want, s)); break;
            case 9: same(17, y, () -> x.outside(p), y.outside(p)); break;
            default: same(18, y, () -> x.delivered(), y.given); break;
        }
    }

    private void same(int which, Roadstead y, IntSupplier call, int due) {
        int got = Checks.answerOf(call);
        seen[which]++;
        if (due < -1000) {
            refused[which]++;
        }
        Checks.due("run " + run + ": call of kind " + which + " at clock " + y.now, got, due);
    }

    private void everyCallWasUsed() {
        for (int i = 0; i < seen.length; i++) {
            boolean isRefusable = i != 8 && i != 18;
            Checks.due("kind " + i + " answered", seen[i] - refused[i] > RUNS / 2 ? 1 : 0, 1);
            Checks.due("kind " + i + " refused", refused[i] > 0 ? 1 : 0, isRefusable ? 1 : 0);
        }
    }
}
