import java.util.ArrayList;
import java.util.List;

/**
 * The document over again, by the plainest means that can be thought of (all matchings, all
 * offsets, all ways of leaving readings out), to hold the program against.
 */
final class PlainShop {
    static final int BAD = -1;
    static final int STATE = -2;
    static final int FULL = -3;
    static final int NONE = -9;
    static final int NO = -1000000;

    private final int[] size = new int[16];
    private final int[][] depth = new int[16][5];
    private final int[] wear = new int[16];
    private final int[] road = new int[16];
    private final int[] roadAtLook = new int[16];
    private final int[] law = {10, 40, 80, 4000};
    private final List<List<Integer>> blows = new ArrayList<>();
    private final List<Integer> spares = new ArrayList<>();
    private final List<int[]> readings = new ArrayList<>();
    private int thinning = 6;
    private int bar = 500;
    private int turnings;
    private long trace;

    PlainShop() {
        for (int k = 0; k < 16; k++) {
            size[k] = 9000;
            blows.add(new ArrayList<>());
        }
    }

    private static boolean out(int v, int least, int most) {
        return v < least || v > most;
    }

    private static boolean noWheel(int wheel) {
        return out(wheel, 0, 15);
    }

    int size(int wheel, int v) {
        if (noWheel(wheel) || out(v, 6000, 9200)) return BAD;
        int was = size[wheel];
        size[wheel] = v;
        return was;
    }

    int depth(int wheel, int i, int v) {
        if (noWheel(wheel) || out(i, 0, 4) || out(v, 0, 99)) return BAD;
        int was = depth[wheel][i];
        depth[wheel][i] = v;
        return was;
    }

    int wear(int wheel, int v) {
        if (noWheel(wheel) || out(v, 0, 20)) return BAD;
        int was = wear[wheel];
        wear[wheel] = v;
        return was;
    }

    int about(int wheel, int what) {
        if (noWheel(wheel) || out(what, 0, 7)) return BAD;
        if (what == 0) return size[wheel];
        if (what == 6) return wear[wheel];
        if (what == 7) return road[wheel] - roadAtLook[wheel];
        return depth[wheel][what - 1];
    }

    int thinning(int v) {
        if (out(v, 0, 30)) return BAD;
        int was = thinning;
        thinning = v;
        return was;
    }

    private int extreme(int wheel, boolean most) {
        int found = depth[wheel][0];
        for (int d : depth[wheel]) {
            if (most ? d > found : d < found) found = d;
        }
        return found;
    }

    /** The cut, and in the second place what it brings to the trace. */
    private int[] asked(int kind, int wheel) {
        if (kind == 0) return new int[] {extreme(wheel, true) - extreme(wheel, false), 1};
        int[] up = asked(kind - 1, wheel);
        if (kind == 2) return new int[] {up[0] % 2 == 1 ? up[0] + 1 : up[0], up[1] + 100};
        int less = up[0];
        if (depth[wheel][0] == extreme(wheel, true)) less = up[0] < thinning ? 0 : up[0] - thinning;
        return new int[] {less, up[1] + 10};
    }

    int cut(int kind, int wheel) {
        if (out(kind, 0, 2) || noWheel(wheel)) return BAD;
        int[] answer = asked(kind, wheel);
        trace += answer[1];
        return answer[0];
    }

    int turn(int wheel, int kind) {
        if (noWheel(wheel) || out(kind, 0, 2)) return BAD;
        int need = asked(kind, wheel)[0];
        if (size[wheel] - 2 * need < 6000) return STATE;
        int least = extreme(wheel, false);
        for (int i = 0; i < 5; i++) {
            depth[wheel][i] = Math.max(0, depth[wheel][i] - least - need);
        }
        size[wheel] -= 2 * need;
        roadAtLook[wheel] = road[wheel];
        turnings++;
        return size[wheel];
    }

    int miles(int n) {
        if (out(n, 1, 500)) return BAD;
        int overdue = 0;
        for (int k = 0; k < 16; k++) {
            int x = wear[k] * n / 100;
            int[] more = {x / 2, x, x, x, x / 2};
            for (int i = 0; i < 5; i++) {
                depth[k][i] = Math.min(99, depth[k][i] + more[i]);
            }
            size[k] = Math.max(6000, size[k] - x);
            road[k] += n;
            if (due(k) <= 0) overdue++;
        }
        return overdue;
    }

    int law(int what, int v) {
        if (out(what, 0, 3) || out(v, 0, 4000)) return BAD;
        int was = law[what];
        law[what] = v;
        return was;
    }

    private int between(int a, int b) {
        int[] together = {2, 4, 8, 16};
        int first = 0;
        while (a / together[first] != b / together[first]) first++;
        return law[first];
    }

    int broken() {
        int pairs = 0;
        for (int a = 0; a < 16; a++) {
            for (int b = 0; b < a; b++) {
                if (Math.abs(size[a] - size[b]) > between(a, b)) pairs++;
            }
        }
        return pairs;
    }

    /** By the shortest ways between all wheels (Floyd and Warshall), a law being a length. */
    private int[] keptSizes() {
        int[][] way = new int[16][16];
        for (int a = 0; a < 16; a++) {
            for (int b = 0; b < 16; b++) {
                way[a][b] = a == b ? 0 : between(a, b);
            }
        }
        for (int c = 0; c < 16; c++) {
            for (int a = 0; a < 16; a++) {
                for (int b = 0; b < 16; b++) {
                    way[a][b] = Math.min(way[a][b], way[a][c] + way[c][b]);
                }
            }
        }
        int[] kept = size.clone();
        for (int a = 0; a < 16; a++) {
            for (int b = 0; b < 16; b++) {
                kept[a] = Math.min(kept[a], size[b] + way[a][b]);
            }
        }
        return kept;
    }

    int kept(int wheel) {
        return noWheel(wheel) ? BAD : keptSizes()[wheel];
    }

    int steel() {
        int lost = 0;
        int[] kept = keptSizes();
        for (int k = 0; k < 16; k++) {
            lost += size[k] - kept[k];
        }
        return lost;
    }

    int even() {
        int losers = 0;
        int[] kept = keptSizes();
        for (int k = 0; k < 16; k++) {
            if (kept[k] != size[k]) losers++;
            size[k] = kept[k];
        }
        return losers;
    }

    int spare(int v) {
        if (out(v, 6000, 9200)) return BAD;
        if (spares.size() == 8) return FULL;
        spares.add(v);
        return spares.size() - 1;
    }

    int sell() {
        if (spares.isEmpty()) return STATE;
        spares.remove(spares.size() - 1);
        return spares.size();
    }

    /** All ways to pair those that are left (bits): pairs, and the sum of differences. */
    private int[] bestPairing(int left) {
        if (left == 0) return new int[] {0, 0};
        int a = Integer.numberOfTrailingZeros(left);
        int rest = left & ~(1 << a);
        int[] best = bestPairing(rest);
        for (int b = a + 1; b < spares.size(); b++) {
            int apart = Math.abs(spares.get(a) - spares.get(b));
            if ((rest & 1 << b) == 0 || apart > law[0]) continue;
            int[] other = bestPairing(rest & ~(1 << b));
            if (other[0] + 1 > best[0] || other[0] + 1 == best[0] && other[1] + apart < best[1]) {
                best = new int[] {other[0] + 1, other[1] + apart};
            }
        }
        return best;
    }

    int pairs(int what) {
        if (out(what, 0, 1)) return BAD;
        return bestPairing((1 << spares.size()) - 1)[what];
    }

    int read(int wheel, int by, int v) {
        if (noWheel(wheel) || out(by, 0, 1) || out(v, 5000, 10000)) return BAD;
        if (readings.size() == 20) return FULL;
        readings.add(new int[] {wheel, by, v});
        return readings.size();
    }

    int forget() {
        if (readings.isEmpty()) return STATE;
        readings.remove(readings.size() - 1);
        return readings.size();
    }

    /** How few readings of a wheel by the reader are left out, if it has that size; -1: hands contradict it. */
    private int leftOut(int wheel, int offset, int size) {
        int left = 0;
        for (int[] told : readings) {
            if (told[0] != wheel) continue;
            if (told[1] == 0 && Math.abs(told[2] - size) > 2) return -1;
            if (told[1] == 1 && Math.abs(told[2] - size - offset) > 5) left++;
        }
        return left;
    }

    /** The fewest left out by any size of the wheel; -1: no size agrees with the hands. */
    private int leftOut(int wheel, int offset) {
        boolean any = false;
        int best = -1;
        for (int[] told : readings) {
            if (told[0] != wheel) continue;
            any = true;
            int about = told[1] == 0 ? told[2] : told[2] - offset;
            for (int s = about - 5; s <= about + 5; s++) {
                int left = leftOut(wheel, offset, s);
                if (left >= 0 && (best < 0 || left < best)) best = left;
            }
        }
        return any ? best : 0;
    }

    /** Of all wheels; -1: hands contradict each other. */
    private int leftOut(int offset) {
        int sum = 0;
        for (int k = 0; k < 16; k++) {
            int left = leftOut(k, offset);
            if (left < 0) return -1;
            sum += left;
        }
        return sum;
    }

    int offset(int what) {
        if (out(what, 0, 3)) return NO + 1;
        int least = NO;
        int greatest = NO;
        int many = 0;
        int fewest = NONE;
        for (int o = -200; o <= 200; o++) {
            int left = leftOut(o);
            if (left == 0) {
                if (many == 0) least = o;
                greatest = o;
                many++;
            }
            if (left >= 0 && (fewest == NONE || left < fewest)) fewest = left;
        }
        return new int[] {least, greatest, many, fewest}[what];
    }

    int pass(int wheel, int blow) {
        if (noWheel(wheel) || out(blow, 0, 999)) return BAD;
        blows.get(wheel).add(blow);
        return flat(wheel);
    }

    int bar(int v) {
        if (out(v, 0, 999)) return BAD;
        int was = bar;
        bar = v;
        return was;
    }

    int flat(int wheel) {
        if (noWheel(wheel)) return BAD;
        List<Integer> all = blows.get(wheel);
        int hard = 0;
        for (int blow : all.subList(Math.max(0, all.size() - 5), all.size())) {
            if (blow >= bar) hard++;
        }
        return hard >= 3 ? 1 : 0;
    }

    int look(int wheel) {
        if (noWheel(wheel)) return NO;
        int was = due(wheel);
        roadAtLook[wheel] = road[wheel];
        return was;
    }

    int due(int wheel) {
        if (noWheel(wheel)) return NO;
        return 1000 - (road[wheel] - roadAtLook[wheel]);
    }

    int count(int what) {
        if (out(what, 0, 5)) return BAD;
        int flats = 0;
        for (int k = 0; k < 16; k++) {
            flats += flat(k);
        }
        return new int[] {spares.size(), readings.size(), flats, thinning, bar, turnings}[what];
    }

    long trace() {
        return trace;
    }
}
