import java.util.Arrays;

/**
 * The document told a second time, in another way (rows of numbers, steps counted down, the
 * state worked out where the class keeps it), so that one slip is not made in both.
 * A refusal is an answer here: one of the numbers RANGE, STATE and NUMBER.
 */
final class Roadstead {
    static final int RANGE = Checks.RANGE, STATE = Checks.STATE, NUMBER = Checks.NUMBER;

    final int[] coal = new int[3];
    final int[] hold = new int[6], load = new int[6], dust = new int[6], at = new int[6];
    final int[] place = new int[6], way = new int[6], crew = new int[6], goal = new int[6];
    final int[] men = new int[6], restUntil = new int[6], worked = new int[6];
    final int[] want = new int[600], lastHour = new int[600], fate = new int[600];
    int hulks, lighters, gangs, steamers, now, given, brought;

    Roadstead() {
        Arrays.fill(crew, -1);
    }

    private static boolean out(int value, int least, int most) {
        return value < least || value > most;
    }

    int hulk(int c) {
        if (out(c, 0, 20000)) return RANGE;
        if (hulks == 3) return STATE;
        coal[hulks] = c;
        brought += c;
        return hulks++;
    }

    int lighter(int h) {
        if (out(h, 20, 500)) return RANGE;
        if (lighters == 6 || hulks == 0) return STATE;
        hold[lighters] = h;
        return lighters++;
    }

    int gang(int m) {
        if (out(m, 1, 20)) return RANGE;
        if (gangs == 6) return STATE;
        men[gangs] = m;
        return gangs++;
    }

    int steamer(int w, int p) {
        if (out(w, 1, 9999) || out(p, 1, 500)) return RANGE;
        if (outside(7) >= 0) return STATE;
        want[steamers] = w;
        lastHour[steamers] = now + p;
        return steamers++;
    }

    private boolean busy(int g) {
        for (int i = 0; i < lighters; i++) {
            if (crew[i] == g) return true;
        }
        return restUntil[g] > now;
    }

    int order(int l, int g, int s) {
        if (out(l, 0, lighters - 1) || out(g, 0, gangs - 1) || out(s, 0, steamers - 1)) return NUMBER;
        if (crew[l] >= 0 || busy(g) || fate[s] > 1) return STATE;
        crew[l] = g;
        goal[l] = s;
        return 0;
    }

    int shift(int l, int h) {
        if (out(l, 0, lighters - 1) || out(h, 0, hulks - 1)) return NUMBER;
        if (crew[l] >= 0) return STATE;
        at[l] = h;
        return 0;
    }

    int sweep(int l, int g) {
        if (out(l, 0, lighters - 1) || out(g, 0, gangs - 1)) return NUMBER;
        if (crew[l] >= 0 || busy(g)) return STATE;
        int swept = dust[l];
        coal[at[l]] += swept;
        dust[l] = 0;
        restUntil[g] = now + 8;
        worked[g] = 0;
        return swept;
    }

    int hours(int n) {
        if (out(n, 1, 500)) return RANGE;
        int gone = 0;
        for (int i = 0; i < n; i++) gone += hour();
        return gone;
    }

    private int hour() {
        int buoys = 2;
        for (int s = 0; s < steamers; s++) {
            if (fate[s] == 1) buoys--;
        }
        for (int s = 0; s < steamers; s++) {
            if (fate[s] == 0 && buoys > 0) {
                fate[s] = 1;
                buoys--;
            }
        }
        // Written as of the hour's end, as the rests that begin in it are.
        now++;
        for (int l = 0; l < lighters; l++) {
            if (crew[l] >= 0) act(l);
        }
        int gone = 0;
        for (int s = 0; s < steamers; s++) {
            if (fate[s] < 2 && (want[s] == 0 || lastHour[s] == now)) {
                fate[s] = want[s] == 0 ? 2 : 3;
                gone++;
                turnBack(s);
            }
        }
        return gone;
    }

    private void turnBack(int s) {
        for (int l = 0; l < lighters; l++) {
            if (crew[l] < 0 || goal[l] != s) continue;
            if (place[l] == 0) dismiss(l);
            else place[l] = 3;
        }
    }

    private void dismiss(int l) {
        int g = crew[l];
        crew[l] = -1;
        if (worked[g] > 7) {
            worked[g] = 0;
            restUntil[g] = now + 8;
        }
    }

    private int shovel(int l, int most) {
        int strength = men[crew[l]] * 4 - dust[l] / 5;
        if (strength < 1) strength = 1;
        return strength < most ? strength : most;
    }

    private void act(int l) {
        worked[crew[l]]++;
        if (place[l] == 3) {
            place[l] = 0;
            dismiss(l);
        } else if (place[l] == 1) {
            if (--way[l] == 0) place[l] = 2;
        } else if (place[l] == 2) {
            if (load[l] == 0) {
                place[l] = 3;
            } else if (fate[goal[l]] == 1) {
                int much = shovel(l, Math.min(load[l], want[goal[l]]));
                load[l] -= much;
                dust[l] += much / 50;
                want[goal[l]] -= much - much / 50;
                given += much - much / 50;
            }
        } else if (load[l] < hold[l] && coal[at[l]] > 0) {
            int much = shovel(l, Math.min(coal[at[l]], hold[l] - load[l]));
            coal[at[l]] -= much;
            load[l] += much - much / 50;
            dust[l] += much / 50;
        } else if (load[l] == 0) {
            dismiss(l);
        } else {
            place[l] = 1;
            way[l] = 2;
        }
    }

    int coalIn(int h) {
        return out(h, 0, hulks - 1) ? NUMBER : coal[h];
    }

    int ofLighter(int[] row, int l) {
        return out(l, 0, lighters - 1) ? NUMBER : row[l];
    }

    int restOf(int g) {
        return out(g, 0, gangs - 1) ? NUMBER : Math.max(0, restUntil[g] - now);
    }

    int ofSteamer(int[] row, int s) {
        return out(s, 0, steamers - 1) ? NUMBER : row[s];
    }

    int outside(int p) {
        if (p < 0) return RANGE;
        int before = 0;
        for (int s = 0; s < steamers; s++) {
            if (fate[s] == 0 && before++ == p) return s;
        }
        return -1;
    }

    int allCoal() {
        int sum = given;
        for (int h = 0; h < hulks; h++) sum += coal[h];
        for (int l = 0; l < lighters; l++) sum += load[l] + dust[l];
        return sum;
    }
}
