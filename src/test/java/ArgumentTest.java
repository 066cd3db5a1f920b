import java.util.function.IntToLongFunction;

/**
 * Every argument of every call: each value as told is taken, the first that isn't and far ones are
 * refused, at the first call of an object and at its 512th.
 */
public final class ArgumentTest {
    private static final Check CHECK = new Check("ArgumentTest");
    private static final int BAD = -1;
    private static final int NO = -1000000;
    private static final int LAST_CALL = 512;

    private interface Call {
        long on(WheelShop x, int v);
    }

    public static void main(String[] args) {
        argumentsOfWheels();
        argumentsOfLawsAndSpares();
        argumentsOfReadingsPassesAndLooks();
        everyWheelItsOwn();
        oneWrongArgumentIsEnough();
        CHECK.end();
    }

    private static void argumentsOfWheels() {
        wheel("2: size", BAD, 9000, (x, v) -> x.size(v, 6000));
        argument("2: size to", 6000, 9200, BAD, v -> 9000, (x, v) -> x.size(3, v));
        shows("2: size to", 6000, 9200, (x, v) -> x.size(3, v), x -> x.about(3, 0));
        wheel("3: depth", BAD, 0, (x, v) -> x.depth(v, 0, 99));
        argument("3: depth's place", 0, 4, BAD, v -> 0, (x, v) -> x.depth(3, v, 50));
        argument("3: depth to", 0, 99, BAD, v -> 0, (x, v) -> x.depth(3, 4, v));
        shows("3: depth to", 0, 99, (x, v) -> x.depth(3, 4, v), x -> x.about(3, 5));
        wheel("4: wear", BAD, 0, (x, v) -> x.wear(v, 20));
        argument("4: wear to", 0, 20, BAD, v -> 0, (x, v) -> x.wear(3, v));
        shows("4: wear to", 0, 20, (x, v) -> x.wear(3, v), x -> x.about(3, 6));
        wheel("5: about", BAD, 9000, (x, v) -> x.about(v, 0));
        argument("5: about what", 0, 7, BAD, v -> v == 0 ? 9000 : 0, (x, v) -> x.about(3, v));
        argument("6: thinning to", 0, 30, BAD, v -> 6, (x, v) -> x.thinning(v));
        shows("6: thinning to", 0, 30, (x, v) -> x.thinning(v), x -> x.count(3));
        argument("7: cut by", 0, 2, BAD, v -> 0, (x, v) -> x.cut(v, 3));
        wheel("7: cut", BAD, 0, (x, v) -> x.cut(0, v));
        wheel("8: turn", BAD, 9000, (x, v) -> x.turn(v, 0));
        argument("8: turn by", 0, 2, BAD, v -> 9000, (x, v) -> x.turn(3, v));
        argument("9: miles", 1, 500, BAD, v -> 0, (x, v) -> x.miles(v));
        shows("9: miles", 1, 500, (x, v) -> x.miles(v), x -> x.about(15, 7));
    }

    private static void argumentsOfLawsAndSpares() {
        int[] first = {10, 40, 80, 4000};
        argument("10: law of", 0, 3, BAD, v -> first[v], (x, v) -> x.law(v, 5));
        for (int what = 0; what < 4; what++) {
            int of = what;
            argument("10: law " + of + " to", 0, 4000, BAD, v -> first[of], (x, v) -> x.law(of, v));
            shows("10: law " + of + " to", 0, 4000, (x, v) -> x.law(of, v), x -> x.law(of, 0));
        }
        wheel("12: kept", BAD, 9000, (x, v) -> x.kept(v));
        argument("15: spare", 6000, 9200, BAD, v -> 0, (x, v) -> x.spare(v));
        argument("17: pairs", 0, 1, BAD, v -> 0, (x, v) -> x.pairs(v));
    }

    private static void argumentsOfReadingsPassesAndLooks() {
        wheel("18: read", BAD, 1, (x, v) -> x.read(v, 0, 7000));
        argument("18: read by", 0, 1, BAD, v -> 1, (x, v) -> x.read(3, v, 7000));
        argument("18: read by a hand", 5000, 10000, BAD, v -> 1, (x, v) -> x.read(3, 0, v));
        argument("18: read by the reader", 5000, 10000, BAD, v -> 1, (x, v) -> x.read(3, 1, v));
        int[] offsets = {-200, 200, 401, 0};
        argument("20: offset", 0, 3, NO + 1, v -> offsets[v], (x, v) -> x.offset(v));
        wheel("21: pass", BAD, 0, (x, v) -> x.pass(v, 999));
        argument("21: blow", 0, 999, BAD, v -> 0, (x, v) -> x.pass(3, v));
        argument("22: bar to", 0, 999, BAD, v -> 500, (x, v) -> x.bar(v));
        shows("22: bar to", 0, 999, (x, v) -> x.bar(v), x -> x.count(4));
        wheel("23: flat", BAD, 0, (x, v) -> x.flat(v));
        wheel("24: look", NO, 1000, (x, v) -> x.look(v));
        wheel("25: due", NO, 1000, (x, v) -> x.due(v));
        int[] counts = {0, 0, 0, 6, 500, 0};
        argument("26: count", 0, 5, BAD, v -> counts[v], (x, v) -> x.count(v));
    }

    private static void wheel(String name, long bad, long answer, Call call) {
        argument(name + " of wheel", 0, 15, bad, v -> answer, call);
    }

    private static void argument(String name, int least, int most, long bad, IntToLongFunction answer, Call call) {
        for (int v = least; v <= most; v++) {
            CHECK.due(name + " " + v, call.on(new WheelShop(), v), answer.applyAsLong(v));
        }
        for (int v : new int[] {least, least + 1, most - 1, most}) {
            long due = answer.applyAsLong(v);
            CHECK.due(name + " " + v + " at the last call", call.on(beforeLastCall(), v), due);
        }
        int[] wrong = {least - 1, least - 2, most + 1, most + 2, -100000, 100000,
            Integer.MIN_VALUE, Integer.MIN_VALUE + 1, Integer.MAX_VALUE - 1, Integer.MAX_VALUE};
        for (int v : wrong) {
            CHECK.due(name + " " + v, call.on(new WheelShop(), v), bad);
            CHECK.due(name + " " + v + " at the last call", call.on(beforeLastCall(), v), bad);
        }
    }

    /** What is taken shows later; what is refused doesn't: there stands what stood before. */
    private static void shows(String name, int least, int most, Call call, java.util.function.ToLongFunction<WheelShop> shown) {
        for (int v = least; v <= most; v++) {
            WheelShop x = new WheelShop();
            call.on(x, v);
            CHECK.due(name + " " + v + " shows", shown.applyAsLong(x), v);
        }
        for (int v : new int[] {least - 1, most + 1, Integer.MIN_VALUE, Integer.MAX_VALUE}) {
            WheelShop x = new WheelShop();
            call.on(x, least);
            call.on(x, v);
            CHECK.due(name + " " + v + " does not show", shown.applyAsLong(x), least);
        }
    }

    /** As new, but with 511 calls behind it: asked, refused, or taken and taken back. */
    private static WheelShop beforeLastCall() {
        WheelShop x = new WheelShop();
        int calls = 1;
        x.cut(0, 16);
        while (calls < LAST_CALL - 1) {
            x.size(calls % 16, 9000);
            x.spare(6000 + calls);
            x.sell();
            x.read(calls % 16, calls % 2, 5000 + calls);
            x.forget();
            x.size(calls, -calls);
            x.offset(4 + calls);
            x.law(0, 9);
            x.law(0, 10);
            x.flat(calls % 16);
            calls += 10;
        }
        CHECK.due("calls before the last one", calls, LAST_CALL - 1);
        return x;
    }

    /** What is done to one wheel shows of that one, and of no other. */
    private static void everyWheelItsOwn() {
        for (int k = 0; k < 16; k++) {
            WheelShop x = new WheelShop();
            x.miles(100);
            x.size(k, 8990);
            x.depth(k, 0, 10);
            x.wear(k, 20);
            x.look(k);
            for (int n = 0; n < 3; n++) {
                x.pass(k, 999);
            }
            for (int other = 0; other < 16; other++) {
                boolean its = other == k;
                String of = "of " + other + ", as wheel " + k + " was changed";
                CHECK.due("2: size " + of, x.about(other, 0), its ? 8990 : 9000);
                CHECK.due("3: depth " + of, x.about(other, 1), its ? 10 : 0);
                CHECK.due("4: wear " + of, x.about(other, 6), its ? 20 : 0);
                CHECK.due("5: road " + of, x.about(other, 7), its ? 0 : 100);
                CHECK.due("7: cut " + of, x.cut(1, other), its ? 4 : 0);
                CHECK.due("23: flat " + of, x.flat(other), its ? 1 : 0);
                CHECK.due("25: due " + of, x.due(other), its ? 1000 : 900);
            }
            CHECK.due("8: turn of wheel " + k, x.turn(k, 1), 8982);
            for (int other = 0; other < 16; other++) {
                CHECK.due("8: size of " + other + " then", x.about(other, 0), other == k ? 8982 : 9000);
                CHECK.due("8: depth of " + other + " then", x.about(other, 1), other == k ? 6 : 0);
            }
        }
        for (int k = 0; k < 16; k++) {
            for (int i = 0; i < 5; i++) {
                WheelShop x = new WheelShop();
                x.depth(k, i, 99);
                for (int j = 0; j < 5; j++) {
                    CHECK.due("3: depth " + j + ", as depth " + i + " was changed", x.about(k, 1 + j), i == j ? 99 : 0);
                }
            }
        }
    }

    /** Of several arguments any wrong one is refused, and all of them together are. */
    private static void oneWrongArgumentIsEnough() {
        int[][] wheels = {{0, 15}, {-1, 16, Integer.MIN_VALUE, Integer.MAX_VALUE}};
        int[][] places = {{0, 4}, {-1, 5, Integer.MIN_VALUE, Integer.MAX_VALUE}};
        int[][] depths = {{0, 99}, {-1, 100, Integer.MIN_VALUE, Integer.MAX_VALUE}};
        int[][] bys = {{0, 1}, {-1, 2, Integer.MIN_VALUE, Integer.MAX_VALUE}};
        int[][] sizes = {{5000, 10000}, {4999, 10001, Integer.MIN_VALUE, Integer.MAX_VALUE}};
        for (int wrong = 0; wrong < 8; wrong++) {
            for (int a : wheels[wrong & 1]) {
                for (int b : places[wrong >> 1 & 1]) {
                    for (int c : depths[wrong >> 2]) {
                        String call = "3: depth(" + a + ", " + b + ", " + c + ")";
                        CHECK.due(call, new WheelShop().depth(a, b, c), wrong == 0 ? 0 : BAD);
                    }
                }
                for (int b : bys[wrong >> 1 & 1]) {
                    for (int c : sizes[wrong >> 2]) {
                        String call = "18: read(" + a + ", " + b + ", " + c + ")";
                        CHECK.due(call, new WheelShop().read(a, b, c), wrong == 0 ? 1 : BAD);
                    }
                }
            }
        }
        for (int far : new int[] {-1, Integer.MIN_VALUE, Integer.MAX_VALUE}) {
            WheelShop x = new WheelShop();
            CHECK.due("2: both wrong", x.size(far, far), BAD);
            CHECK.due("4: both wrong", x.wear(far, far), BAD);
            CHECK.due("5: both wrong", x.about(far, far), BAD);
            CHECK.due("7: both wrong", x.cut(far, far), BAD);
            CHECK.due("8: both wrong", x.turn(far, far), BAD);
            CHECK.due("10: both wrong", x.law(far, far), BAD);
            CHECK.due("21: both wrong", x.pass(far, far), BAD);
        }
        CHECK.due("7: a kind of 15 is none, as a wheel of 2 is one", new WheelShop().cut(15, 2), BAD);
        CHECK.due("8: a kind of 15 is none, as a wheel of 2 is one", new WheelShop().turn(2, 15), BAD);
    }
}
