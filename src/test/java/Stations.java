/** Roadsteads in the middle of their work, for calls that are refused there. */
final class Stations {
    private Stations() {
    }

    /** Two hulks, five lighters, five gangs, and steamers 0 and 1 at the buoys, 2 outside, 3 gone short. */
    private static CoalHulks manned() {
        CoalHulks x = new CoalHulks();
        x.hulk(400);
        x.hulk(3000);
        int[] holds = {20, 100, 60, 500, 40};
        int[] men = {5, 10, 20, 1, 6};
        for (int i = 0; i < holds.length; i++) {
            x.lighter(holds[i]);
            x.gang(men[i]);
        }
        x.shift(3, 1);
        x.steamer(9999, 300);
        x.steamer(500, 40);
        x.steamer(30, 60);
        x.steamer(7, 1);
        return x;
    }

    /**
     * At the clock 5: lighter 0 at steamer 0, lighter 1 outward, lighter 3 at the hulk 1, each with
     * the gang of its number; lighters 2 and 4 free at the hulk 0, gang 2 free, gang 4 rests for 7 hours.
     */
    static CoalHulks busy() {
        CoalHulks x = manned();
        x.order(0, 0, 0);
        x.order(1, 1, 1);
        x.order(3, 3, 2);
        x.hours(4);
        x.sweep(4, 4);
        x.hours(1);
        return x;
    }

    /** An hour behind busy: lighter 0 homeward, lighter 1 at steamer 1, gang 4 rests for 6 hours. */
    static CoalHulks busyLater() {
        CoalHulks x = busy();
        x.hours(1);
        return x;
    }

    /** No more of anything has room: 3 hulks, 6 lighters, 6 gangs, 2 steamers at buoys and 8 outside. */
    static CoalHulks full() {
        CoalHulks x = new CoalHulks();
        for (int i = 0; i < 3; i++) {
            x.hulk(1000 * i + 500);
        }
        for (int i = 0; i < 6; i++) {
            x.lighter(20 + 50 * i);
            x.gang(1 + 3 * i);
        }
        x.steamer(100, 20);
        x.steamer(200, 30);
        x.order(0, 5, 0);
        x.order(5, 0, 1);
        x.hours(1);
        for (int i = 0; i < 8; i++) {
            x.steamer(40 + i, 25 + i);
        }
        return x;
    }
}
