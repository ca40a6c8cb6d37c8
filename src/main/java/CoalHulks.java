import java.util.ArrayList;

/** A coaling station in a roadstead, hour by hour. */
public final class CoalHulks {
    public static final int AT_HULK = 0, OUTWARD = 1, AT_STEAMER = 2, HOMEWARD = 3;
    public static final int OUTSIDE = 0, AT_BUOY = 1, FILLED = 2, GONE_SHORT = 3;

    private static final int MOST_HULKS = 3;
    private static final int MOST_COAL = 20000;
    private static final int MOST_LIGHTERS = 6;
    private static final int LEAST_HOLD = 20;
    private static final int MOST_HOLD = 500;
    private static final int MOST_GANGS = 6;
    private static final int MOST_MEN = 20;
    private static final int MOST_WANT = 9999;
    private static final int MOST_PATIENCE = 500;
    private static final int MOST_OUTSIDE = 8;
    private static final int BUOYS = 2;
    private static final int MOST_HOURS = 500;
    // An object is promised for 512 calls, so no promised run meets this bound.
    private static final int MOST_STEAMERS = 512;

    private static final int SHOVELLED_BY_A_MAN = 4;
    private static final int DUST_THAT_COSTS_ONE = 5;
    private static final int SHOVELLED_FOR_ONE_DUST = 50;
    private static final int HOURS_OUTWARD = 2;
    private static final int HOURS_THAT_TIRE = 8;
    private static final int HOURS_OF_REST = 8;

    private final ArrayList<Hulk> hulks;
    private final ArrayList<Lighter> lighters;
    private final ArrayList<Gang> gangs;
    private final ArrayList<Steamer> steamers;
    // Those that have not left, by rising numbers: an hour must not pay for the many that have.
    private final ArrayList<Steamer> present;
    private int hoursGone;
    private int coalDelivered;

    private static final class Hulk {
        int coal;

        Hulk(int coal) {
            this.coal = coal;
        }
    }

    private static final class Lighter {
        final int hold;
        int load;
        int dust;
        int place;
        int hoursOut;
        Hulk home;
        // null while the lighter has none
        Order task;

        Lighter(int hold, Hulk home) {
            this.hold = hold;
            this.home = home;
            this.place = AT_HULK;
        }
    }

    private static final class Gang {
        final int number;
        final int men;
        boolean aboard;
        int rest;
        int hoursCounted;

        Gang(int number, int men) {
            this.number = number;
            this.men = men;
        }

        boolean isFree() {
            return !aboard && rest == 0;
        }

        int strength(int dust) {
            int most = SHOVELLED_BY_A_MAN * men - dust / DUST_THAT_COSTS_ONE;
            return most > 1 ? most : 1;
        }

        void lieDown() {
            rest = HOURS_OF_REST;
            hoursCounted = 0;
        }
    }

    private static final class Steamer {
        final int number;
        int want;
        int patience;
        int fate;

        Steamer(int number, int want, int patience) {
            this.number = number;
            this.want = want;
            this.patience = patience;
            this.fate = OUTSIDE;
        }

        boolean hasLeft() {
            return fate == FILLED || fate == GONE_SHORT;
        }
    }

    private static final class Order {
        final Gang shovellers;
        final Steamer target;

        Order(Gang shovellers, Steamer target) {
            this.shovellers = shovellers;
            this.target = target;
        }
    }

    public CoalHulks() {
        hulks = new ArrayList<Hulk>();
        lighters = new ArrayList<Lighter>();
        gangs = new ArrayList<Gang>();
        steamers = new ArrayList<Steamer>();
        present = new ArrayList<Steamer>();
    }

    public int hulk(int coal) throws IllegalArgumentException, IllegalStateException {
        refuseOutOfRange(coal, 0, MOST_COAL);
        int number = hulks.size();
        if (number >= MOST_HULKS) {
            throw new IllegalStateException("there are 3 hulks");
        }
        hulks.add(new Hulk(coal));
        return number;
    }

    public int lighter(int hold) throws IllegalArgumentException, IllegalStateException {
        refuseOutOfRange(hold, LEAST_HOLD, MOST_HOLD);
        int number = lighters.size();
        if (number >= MOST_LIGHTERS) {
            throw new IllegalStateException("there are 6 lighters");
        }
        if (hulks.isEmpty()) {
            throw new IllegalStateException("there is no hulk");
        }
        lighters.add(new Lighter(hold, hulks.get(0)));
        return number;
    }

    public int gang(int men) throws IllegalArgumentException, IllegalStateException {
        refuseOutOfRange(men, 1, MOST_MEN);
        int number = gangs.size();
        if (number >= MOST_GANGS) {
            throw new IllegalStateException("there are 6 gangs");
        }
        gangs.add(new Gang(number, men));
        return number;
    }

    public int steamer(int want, int patience) throws IllegalArgumentException, IllegalStateException {
        refuseOutOfRange(want, 1, MOST_WANT);
        refuseOutOfRange(patience, 1, MOST_PATIENCE);
        int number = steamers.size();
        if (countFaring(OUTSIDE) >= MOST_OUTSIDE || number >= MOST_STEAMERS) {
            throw new IllegalStateException("there is no room outside");
        }
        Steamer arrived = new Steamer(number, want, patience);
        steamers.add(arrived);
        present.add(arrived);
        return number;
    }

    public void order(int lighter, int gang, int steamer) throws IndexOutOfBoundsException, IllegalStateException {
        Lighter ordered = findLighter(lighter);
        Gang shovellers = findGang(gang);
        Steamer target = findSteamer(steamer);
        refuseOrdered(ordered);
        refuseBusy(shovellers);
        if (target.hasLeft()) {
            throw new IllegalStateException("the steamer has left");
        }
        ordered.task = new Order(shovellers, target);
        shovellers.aboard = true;
    }

    public void shift(int lighter, int hulk) throws IndexOutOfBoundsException, IllegalStateException {
        Lighter shifted = findLighter(lighter);
        Hulk home = findHulk(hulk);
        refuseOrdered(shifted);
        shifted.home = home;
    }

    public int sweep(int lighter, int gang) throws IndexOutOfBoundsException, IllegalStateException {
        Lighter swept = findLighter(lighter);
        Gang sweepers = findGang(gang);
        refuseOrdered(swept);
        refuseBusy(sweepers);
        int dust = swept.dust;
        swept.dust = 0;
        swept.home.coal += dust;
        sweepers.lieDown();
        return dust;
    }

    public int hours(int hours) throws IllegalArgumentException {
        refuseOutOfRange(hours, 1, MOST_HOURS);
        int left = 0;
        for (int i = 0; i < hours; i++) {
            left += passAnHour();
        }
        return left;
    }

    public int clock() {
        return hoursGone;
    }

    public int coalIn(int hulk) throws IndexOutOfBoundsException {
        return findHulk(hulk).coal;
    }

    public int placeOf(int lighter) throws IndexOutOfBoundsException {
        return findLighter(lighter).place;
    }

    public int loadOf(int lighter) throws IndexOutOfBoundsException {
        return findLighter(lighter).load;
    }

    public int dustIn(int lighter) throws IndexOutOfBoundsException {
        return findLighter(lighter).dust;
    }

    public int gangOn(int lighter) throws IndexOutOfBoundsException {
        Order task = findLighter(lighter).task;
        return task == null ? -1 : task.shovellers.number;
    }

    public int restOf(int gang) throws IndexOutOfBoundsException {
        return findGang(gang).rest;
    }

    public int fateOf(int steamer) throws IndexOutOfBoundsException {
        return findSteamer(steamer).fate;
    }

    public int wantOf(int steamer) throws IndexOutOfBoundsException {
        return findSteamer(steamer).want;
    }

    public int outside(int place) throws IllegalArgumentException {
        if (place < 0) {
            throw new IllegalArgumentException("the place is below 0");
        }
        int before = 0;
        for (int i = 0; i < present.size(); i++) {
            Steamer one = present.get(i);
            if (one.fate == OUTSIDE) {
                if (before == place) {
                    return one.number;
                }
                before++;
            }
        }
        return -1;
    }

    public int delivered() {
        return coalDelivered;
    }

    private static void refuseOutOfRange(int value, int least, int most) {
        if (value < least || value > most) {
            throw new IllegalArgumentException("out of range");
        }
    }

    private static void refuseOrdered(Lighter one) {
        if (one.task != null) {
            throw new IllegalStateException("the lighter has an order");
        }
    }

    private static void refuseBusy(Gang one) {
        if (!one.isFree()) {
            throw new IllegalStateException("the gang has an order or rests");
        }
    }

    private Hulk findHulk(int number) {
        if (number < 0 || number >= hulks.size()) {
            throw new IndexOutOfBoundsException("no such hulk");
        }
        return hulks.get(number);
    }

    private Lighter findLighter(int number) {
        if (number < 0 || number >= lighters.size()) {
            throw new IndexOutOfBoundsException("no such lighter");
        }
        return lighters.get(number);
    }

    private Gang findGang(int number) {
        if (number < 0 || number >= gangs.size()) {
            throw new IndexOutOfBoundsException("no such gang");
        }
        return gangs.get(number);
    }

    private Steamer findSteamer(int number) {
        if (number < 0 || number >= steamers.size()) {
            throw new IndexOutOfBoundsException("no such steamer");
        }
        return steamers.get(number);
    }

    private int countFaring(int fate) {
        int count = 0;
        for (int i = 0; i < present.size(); i++) {
            if (present.get(i).fate == fate) {
                count++;
            }
        }
        return count;
    }

    private int passAnHour() {
        restGangs();
        takeBuoys();
        workLighters();
        int left = letSteamersLeave();
        hoursGone++;
        return left;
    }

    private void restGangs() {
        for (int i = 0; i < gangs.size(); i++) {
            Gang one = gangs.get(i);
            if (one.rest > 0) {
                one.rest--;
            }
        }
    }

    private void takeBuoys() {
        int taken = countFaring(AT_BUOY);
        for (int i = 0; i < present.size() && taken < BUOYS; i++) {
            Steamer one = present.get(i);
            if (one.fate == OUTSIDE) {
                one.fate = AT_BUOY;
                taken++;
            }
        }
    }

    private void workLighters() {
        for (int i = 0; i < lighters.size(); i++) {
            Lighter one = lighters.get(i);
            Order task = one.task;
            if (task != null) {
                // Counted before the work: the hour in which an order ends counts too.
                task.shovellers.hoursCounted++;
                work(one, task);
            }
        }
    }

    private void work(Lighter one, Order task) {
        switch (one.place) {
            case AT_HULK:
                workAtHulk(one, task);
                break;
            case OUTWARD:
                goOutward(one);
                break;
            case AT_STEAMER:
                workAtSteamer(one, task);
                break;
            default:
                comeHome(one, task);
                break;
        }
    }

    private static void workAtHulk(Lighter one, Order task) {
        boolean isDone = one.load >= one.hold || one.home.coal <= 0;
        if (!isDone) {
            shovelFromHulk(one, task.shovellers);
        } else if (one.load > 0) {
            one.place = OUTWARD;
            one.hoursOut = 0;
        } else {
            endOrder(one, task);
        }
    }

    private static void shovelFromHulk(Lighter one, Gang shovellers) {
        int room = Math.min(one.home.coal, one.hold - one.load);
        int shovelled = Math.min(shovellers.strength(one.dust), room);
        int ground = shovelled / SHOVELLED_FOR_ONE_DUST;
        one.home.coal -= shovelled;
        one.load += shovelled - ground;
        one.dust += ground;
    }

    private static void goOutward(Lighter one) {
        one.hoursOut++;
        if (one.hoursOut >= HOURS_OUTWARD) {
            one.place = AT_STEAMER;
        }
    }

    private void workAtSteamer(Lighter one, Order task) {
        if (one.load <= 0) {
            one.place = HOMEWARD;
        } else if (task.target.fate == AT_BUOY) {
            shovelIntoSteamer(one, task);
        }
    }

    private void shovelIntoSteamer(Lighter one, Order task) {
        Steamer target = task.target;
        int room = Math.min(one.load, target.want);
        int shovelled = Math.min(task.shovellers.strength(one.dust), room);
        int ground = shovelled / SHOVELLED_FOR_ONE_DUST;
        one.load -= shovelled;
        one.dust += ground;
        target.want -= shovelled - ground;
        coalDelivered += shovelled - ground;
    }

    private static void comeHome(Lighter one, Order task) {
        one.place = AT_HULK;
        endOrder(one, task);
    }

    private static void endOrder(Lighter one, Order task) {
        Gang ashore = task.shovellers;
        one.task = null;
        ashore.aboard = false;
        if (ashore.hoursCounted >= HOURS_THAT_TIRE) {
            ashore.lieDown();
        }
    }

    private int letSteamersLeave() {
        int left = 0;
        for (int i = 0; i < present.size(); i++) {
            Steamer one = present.get(i);
            one.patience--;
            if (one.want <= 0 || one.patience <= 0) {
                one.fate = one.want <= 0 ? FILLED : GONE_SHORT;
                recallLighters(one);
                left++;
            }
        }
        forgetTheLeft();
        return left;
    }

    private void recallLighters(Steamer gone) {
        for (int i = 0; i < lighters.size(); i++) {
            Lighter one = lighters.get(i);
            Order task = one.task;
            if (task != null && task.target == gone) {
                recall(one, task);
            }
        }
    }

    private static void recall(Lighter one, Order task) {
        if (one.place == AT_HULK) {
            endOrder(one, task);
        } else {
            one.place = HOMEWARD;
        }
    }

    private void forgetTheLeft() {
        // Downward, so that a removal does not shift those still to be looked at.
        for (int i = present.size() - 1; i >= 0; i--) {
            if (present.get(i).hasLeft()) {
                present.remove(i);
            }
        }
    }
}
