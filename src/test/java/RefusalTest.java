import java.util.function.ToLongFunction;

/**
 * Nothing changes at a refused call: of two objects with the same past one gets refused calls
 * too, and both answer alike from then on.
 */
public final class RefusalTest {
    private static final Check CHECK = new Check("RefusalTest");

    private static final int[] NO_WHEEL = {-1, 16, Integer.MIN_VALUE, Integer.MAX_VALUE};

    public static void main(String[] args) {
        for (int wheel : NO_WHEEL) {
            refused("size of no wheel", -1, x -> x.size(wheel, 7000));
            refused("depth of no wheel", -1, x -> x.depth(wheel, 1, 5));
            refused("wear of no wheel", -1, x -> x.wear(wheel, 5));
            refused("about no wheel", -1, x -> x.about(wheel, 1));
            refused("cut of no wheel", -1, x -> x.cut(2, wheel));
            refused("turn of no wheel", -1, x -> x.turn(wheel, 0));
            refused("kept of no wheel", -1, x -> x.kept(wheel));
            refused("read of no wheel", -1, x -> x.read(wheel, 1, 7000));
            refused("pass of no wheel", -1, x -> x.pass(wheel, 999));
            refused("flat of no wheel", -1, x -> x.flat(wheel));
            refused("look at no wheel", -1000000, x -> x.look(wheel));
            refused("due of no wheel", -1000000, x -> x.due(wheel));
        }
        beyond("size", 6000, 9200, -1, v -> x -> x.size(2, v));
        beyond("depth's place", 0, 4, -1, v -> x -> x.depth(2, v, 50));
        beyond("depth", 0, 99, -1, v -> x -> x.depth(2, 0, v));
        beyond("wear", 0, 20, -1, v -> x -> x.wear(2, v));
        beyond("about", 0, 7, -1, v -> x -> x.about(2, v));
        beyond("thinning", 0, 30, -1, v -> x -> x.thinning(v));
        beyond("cut's kind", 0, 2, -1, v -> x -> x.cut(v, 2));
        beyond("turn's kind", 0, 2, -1, v -> x -> x.turn(2, v));
        beyond("miles", 1, 500, -1, v -> x -> x.miles(v));
        beyond("law's place", 0, 3, -1, v -> x -> x.law(v, 50));
        beyond("law", 0, 4000, -1, v -> x -> x.law(1, v));
        beyond("spare", 6000, 9200, -1, v -> x -> x.spare(v));
        beyond("pairs", 0, 1, -1, v -> x -> x.pairs(v));
        beyond("who reads", 0, 1, -1, v -> x -> x.read(2, v, 7000));
        beyond("read", 5000, 10000, -1, v -> x -> x.read(2, 1, v));
        beyond("offset", 0, 3, -999999, v -> x -> x.offset(v));
        beyond("pass", 0, 999, -1, v -> x -> x.pass(2, v));
        beyond("bar", 0, 999, -1, v -> x -> x.bar(v));
        beyond("count", 0, 5, -1, v -> x -> x.count(v));
        for (int kind = 0; kind < 3; kind++) {
            int by = kind;
            refused("a turning below 6000", -2, x -> x.turn(1, by));
        }
        emptyAndFull();
        CHECK.end();
    }

    private interface CallWith {
        ToLongFunction<WheelShop> call(int v);
    }

    private static void beyond(String name, int least, int most, long answer, CallWith with) {
        for (int v : new int[] {least - 1, most + 1, Integer.MIN_VALUE, Integer.MAX_VALUE}) {
            refused(name + " " + v, answer, with.call(v));
        }
    }

    private static void refused(String name, long answer, ToLongFunction<WheelShop> call) {
        WheelShop asked = used();
        CHECK.due(name, call.applyAsLong(asked), answer);
        alike(name, asked, used());
    }

    private static void emptyAndFull() {
        WheelShop empty = new WheelShop();
        CHECK.due("sell none", empty.sell(), -2);
        CHECK.due("forget none", empty.forget(), -2);
        alike("sell and forget none", empty, new WheelShop());
        WheelShop full = filled();
        CHECK.due("a ninth spare", full.spare(7000), -3);
        CHECK.due("a bad ninth spare", full.spare(5999), -1);
        CHECK.due("a reading too many", full.read(1, 1, 9500), -3);
        CHECK.due("a bad reading too many", full.read(16, 1, 9500), -1);
        CHECK.due("a bad reading too many", full.read(1, 2, 9500), -1);
        CHECK.due("a bad reading too many", full.read(1, 1, 10001), -1);
        alike("full", full, filled());
    }

    /** Something of everything; wheel 1 is too small to be turned by any kind. */
    private static WheelShop used() {
        WheelShop x = new WheelShop();
        for (int k = 0; k < 16; k++) {
            x.size(k, 8900 + 7 * k);
            x.wear(k, k);
            x.depth(k, k % 5, 3 * k);
        }
        x.size(1, 6008);
        x.depth(1, 3, 60);
        x.miles(123);
        x.cut(2, 5);
        x.turn(4, 1);
        x.look(7);
        x.law(2, 70);
        x.thinning(9);
        x.bar(300);
        for (int n = 0; n < 6; n++) {
            x.pass(2, 250 + 20 * n);
            x.spare(7000 + n * n);
            x.read(n % 3, n % 2, 7000 + 3 * n);
        }
        return x;
    }

    private static WheelShop filled() {
        WheelShop x = used();
        for (int n = 6; n < 8; n++) {
            x.spare(7000 + n);
        }
        for (int n = 6; n < 20; n++) {
            x.read(n % 16, n % 2, 7000 + n);
        }
        return x;
    }

    private static void alike(String after, WheelShop x, WheelShop y) {
        for (int k = 0; k < 16; k++) {
            for (int what = 0; what < 8; what++) {
                CHECK.due(after + ", then about", x.about(k, what), y.about(k, what));
            }
            CHECK.due(after + ", then kept", x.kept(k), y.kept(k));
            CHECK.due(after + ", then due", x.due(k), y.due(k));
            CHECK.due(after + ", then flat", x.flat(k), y.flat(k));
        }
        for (int what = 0; what < 6; what++) {
            CHECK.due(after + ", then count", x.count(what), y.count(what));
        }
        for (int what = 0; what < 4; what++) {
            CHECK.due(after + ", then offset", x.offset(what), y.offset(what));
            CHECK.due(after + ", then law", x.law(what, 15), y.law(what, 15));
        }
        CHECK.due(after + ", then trace", x.trace(), y.trace());
        CHECK.due(after + ", then broken", x.broken(), y.broken());
        CHECK.due(after + ", then pairs", x.pairs(0), y.pairs(0));
        CHECK.due(after + ", then their sum", x.pairs(1), y.pairs(1));
        for (int n = 0; n < 5; n++) {
            CHECK.due(after + ", then a pass", x.pass(2, 100 * n), y.pass(2, 100 * n));
        }
        CHECK.due(after + ", then a spare", x.spare(7001), y.spare(7001));
        CHECK.due(after + ", then sell", x.sell(), y.sell());
        CHECK.due(after + ", then forget", x.forget(), y.forget());
        CHECK.due(after + ", then the offsets", x.offset(2), y.offset(2));
        CHECK.due(after + ", then miles", x.miles(500), y.miles(500));
        CHECK.due(after + ", then even", x.even(), y.even());
    }
}
