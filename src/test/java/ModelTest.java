/** Long runs of mixed calls, each answer held against PlainShop's; the numbers come from a seed. */
public final class ModelTest {
    private static final int RUNS = 400;
    private static final int CALLS = 512;
    /** As many as lastLook() asks. */
    private static final int LAST_LOOK = 187;
    private static final Check CHECK = new Check("ModelTest");

    private long state;
    private WheelShop shop;
    private PlainShop plain;
    /** How far apart the sizes of this run lie, and on how many wheels the run goes. */
    private int spread;
    private int wheels;

    public static void main(String[] args) {
        ModelTest test = new ModelTest();
        for (int run = 0; run < RUNS; run++) {
            test.run(run);
        }
        CHECK.end();
    }

    private void run(int run) {
        state = run * 7919L + 12345;
        shop = new WheelShop();
        plain = new PlainShop();
        spread = new int[] {3, 12, 40, 150, 1500}[upTo(4)];
        wheels = new int[] {1, 2, 4, 16}[upTo(3)];
        int focus = run % 5;
        boolean looks = run % 2 == 0;
        for (int call = 0; call < (looks ? CALLS - LAST_LOOK : CALLS); call++) {
            int group = upTo(9) < 7 && focus < 4 ? focus : upTo(3);
            String where = "run " + run + ", call " + call + ": ";
            switch (group) {
                case 0: wheelCall(where); break;
                case 1: lawCall(where); break;
                case 2: readingCall(where); break;
                default: passCall(where); break;
            }
        }
        if (looks) {
            lastLook("run " + run + ", at its end: ");
        }
    }

    /** 0 .. most, by a plain generator: the same numbers each time. */
    private int upTo(int most) {
        state = state * 6364136223846793005L + 1442695040888963407L;
        return (int) ((state >>> 33) % (most + 1));
    }

    private int wheel() {
        if (upTo(39) == 0) return new int[] {-1, 16, Integer.MIN_VALUE, Integer.MAX_VALUE}[upTo(3)];
        return upTo(wheels - 1);
    }

    /** Mostly between the two, sometimes on an edge, seldom beyond one. */
    private int between(int least, int most) {
        switch (upTo(29)) {
            case 0: return least - 1;
            case 1: return most + 1;
            case 2: return upTo(1) == 0 ? Integer.MIN_VALUE : Integer.MAX_VALUE;
            case 3: case 4: return least;
            case 5: case 6: return most;
            default: return least + upTo(most - least);
        }
    }

    private int size() {
        switch (upTo(19)) {
            case 0: return between(6000, 9200);
            case 1: return 6000 + upTo(200);
            default: return 8000 - spread + upTo(2 * spread);
        }
    }

    private void wheelCall(String where) {
        int w = wheel();
        switch (upTo(9)) {
            case 0: { int v = size(); due(where, "size", shop.size(w, v), plain.size(w, v), w, v); break; }
            case 1: case 2: case 3: {
                int i = between(0, 4);
                int v = upTo(2) == 0 ? between(0, 99) : upTo(9);
                due(where, "depth", shop.depth(w, i, v), plain.depth(w, i, v), w, i, v);
                break;
            }
            case 4: { int v = between(0, 20); due(where, "wear", shop.wear(w, v), plain.wear(w, v), w, v); break; }
            case 5: { int v = between(0, 7); due(where, "about", shop.about(w, v), plain.about(w, v), w, v); break; }
            case 6: { int v = between(0, 30); due(where, "thinning", shop.thinning(v), plain.thinning(v), v); break; }
            case 7: { int k = between(0, 2); due(where, "cut", shop.cut(k, w), plain.cut(k, w), k, w); break; }
            case 8: { int k = between(0, 2); due(where, "turn", shop.turn(w, k), plain.turn(w, k), w, k); break; }
            default: { int n = upTo(3) == 0 ? between(1, 500) : 1 + upTo(60); due(where, "miles", shop.miles(n), plain.miles(n), n); break; }
        }
    }

    private void lawCall(String where) {
        int w = wheel();
        switch (upTo(10)) {
            case 0: case 1: case 2: { int v = size(); due(where, "size", shop.size(w, v), plain.size(w, v), w, v); break; }
            case 3: {
                int what = between(0, 3);
                int v = upTo(3) == 0 ? between(0, 4000) : upTo(spread);
                due(where, "law", shop.law(what, v), plain.law(what, v), what, v);
                break;
            }
            case 4: due(where, "broken", shop.broken(), plain.broken()); break;
            case 5: due(where, "kept", shop.kept(w), plain.kept(w), w); break;
            case 6: due(where, "steel", shop.steel(), plain.steel()); break;
            case 7: if (upTo(3) == 0) due(where, "even", shop.even(), plain.even()); break;
            case 8: case 9: { int v = size(); due(where, "spare", shop.spare(v), plain.spare(v), v); break; }
            default: {
                if (upTo(2) == 0) due(where, "sell", shop.sell(), plain.sell());
                int what = between(0, 1);
                due(where, "pairs", shop.pairs(what), plain.pairs(what), what);
                break;
            }
        }
    }

    private void readingCall(String where) {
        switch (upTo(5)) {
            case 0: case 1: case 2: {
                int w = wheel();
                int by = upTo(9) == 0 ? between(0, 1) : upTo(3) == 0 ? 0 : 1;
                int v = by == 0 ? 7000 + upTo(5) : 7000 + offsetOfRun() + upTo(Math.min(spread, 300));
                if (upTo(29) == 0) v = between(5000, 10000);
                due(where, "read", shop.read(w, by, v), plain.read(w, by, v), w, by, v);
                break;
            }
            case 3: if (upTo(1) == 0) due(where, "forget", shop.forget(), plain.forget()); break;
            default: {
                if (upTo(2) > 0) break;
                int what = between(0, 3);
                due(where, "offset", shop.offset(what), plain.offset(what), what);
                break;
            }
        }
    }

    private int offsetOfRun() {
        return new int[] {0, 60, 190, -60, -199}[wheels * 3 % 5];
    }

    private void passCall(String where) {
        int w = wheel();
        switch (upTo(7)) {
            case 0: case 1: case 2: { int v = between(0, 999); due(where, "pass", shop.pass(w, v), plain.pass(w, v), w, v); break; }
            case 3: { int v = between(0, 999); due(where, "bar", shop.bar(v), plain.bar(v), v); break; }
            case 4: due(where, "flat", shop.flat(w), plain.flat(w), w); break;
            case 5: due(where, "look", shop.look(w), plain.look(w), w); break;
            case 6: due(where, "due", shop.due(w), plain.due(w), w); break;
            default: { int v = between(0, 5); due(where, "count", shop.count(v), plain.count(v), v); break; }
        }
    }

    /** All that can be asked; beyond an object's 512 calls nothing is promised, so they count as well. */
    private void lastLook(String where) {
        for (int w = 0; w < 16; w++) {
            for (int what = 0; what < 8; what++) {
                due(where, "about", shop.about(w, what), plain.about(w, what), w, what);
            }
            due(where, "kept", shop.kept(w), plain.kept(w), w);
            due(where, "flat", shop.flat(w), plain.flat(w), w);
            due(where, "due", shop.due(w), plain.due(w), w);
        }
        for (int what = 0; what < 6; what++) {
            due(where, "count", shop.count(what), plain.count(what), what);
        }
        for (int what = 0; what < 4; what++) {
            due(where, "offset", shop.offset(what), plain.offset(what), what);
        }
        due(where, "trace", shop.trace(), plain.trace());
    }

    private static void due(String where, String call, long got, long want, int... with) {
        CHECK.due(where + call + java.util.Arrays.toString(with), got, want);
    }
}
