import java.util.function.Supplier;
import java.util.function.ToLongFunction;

/**
 * Nothing changes at a refused call: of two objects with the same past one gets refused calls
 * too, and both answer alike from then on. The pasts: none, something of everything, as much as
 * can be, and the ends of all numbers.
 */
public final class RefusalTest {
    private static final Check CHECK = new Check("RefusalTest");

    private static final int[] NO_WHEEL = {-1, 16, Integer.MIN_VALUE, Integer.MAX_VALUE};

    public static void main(String[] args) {
        for (int wheel : NO_WHEEL) {
            refused("size of no wheel", -1, x -> x.size(wheel, 7000));
            refused("depth of no wheel", -1, x -> x.depth(wheel, 1, 5));
            refused("wear of no wheel", -1, x -> x.wear(wheel, 5));
            refused("about no wheel", -1, x -> x.about(wheel, 1));
            refused("cut of no wheel", -1, x -> x.cut(2, wheel));
            refused("turn of no wheel", -1, x -> x.turn(wheel, 0));
            refused("kept of no wheel", -1, x -> x.kept(wheel));
            refused("read of no wheel", -1, x -> x.read(wheel, 1, 7000));
            refused("pass of no wheel", -1, x -> x.pass(wheel, 999));
            refused("flat of no wheel", -1, x -> x.flat(wheel));
            refused("look at no wheel", -1000000, x -> x.look(wheel));
            refused("due of no wheel", -1000000, x -> x.due(wheel));
        }
        beyond("size", 6000, 9200, -1, v -> x -> x.size(2, v));
        beyond("depth's place", 0, 4, -1, v -> x -> x.depth(2, v, 50));
        beyond("depth", 0, 99, -1, v -> x -> x.depth(2, 0, v));
        beyond("wear", 0, 20, -1, v -> x -> x.wear(2, v));
        beyond("about", 0, 7, -1, v -> x -> x.about(2, v));
        beyond("thinning", 0, 30, -1, v -> x -> x.thinning(v));
        beyond("cut's kind", 0, 2, -1, v -> x -> x.cut(v, 2));
        beyond("turn's kind", 0, 2, -1, v -> x -> x.turn(2, v));
        beyond("miles", 1, 500, -1, v -> x -> x.miles(v));
        beyond("law's place", 0, 3, -1, v -> x -> x.law(v, 50));
        beyond("law", 0, 4000, -1, v -> x -> x.law(1, v));
        beyond("spare", 6000, 9200, -1, v -> x -> x.spare(v));
        beyond("pairs", 0, 1, -1, v -> x -> x.pairs(v));
        beyond("who reads", 0, 1, -1, v -> x -> x.read(2, v, 7000));
        beyond("read", 5000, 10000, -1, v -> x -> x.read(2, 1, v));
        beyond("offset", 0, 3, -999999, v -> x -> x.offset(v));
        beyond("pass", 0, 999, -1, v -> x -> x.pass(2, v));
        beyond("bar", 0, 999, -1, v -> x -> x.bar(v));
        beyond("count", 0, 5, -1, v -> x -> x.count(v));
        turningsBelow6000();
        emptyAndFull();
        badComesFirst();
        CHECK.end();
    }

    private interface CallWith {
        ToLongFunction<WheelShop> call(int v);
    }

    private static void beyond(String name, int least, int most, long answer, CallWith with) {
        for (int v : new int[] {least - 1, most + 1, Integer.MIN_VALUE, Integer.MAX_VALUE}) {
            refused(name + " " + v, answer, with.call(v));
        }
    }

    private static void refused(String name, long answer, ToLongFunction<WheelShop> call) {
        afterRefused(name + ", when new", answer, call, WheelShop::new);
        afterRefused(name + ", when used", answer, call, RefusalTest::used);
        afterRefused(name + ", when full", answer, call, RefusalTest::filled);
        afterRefused(name + ", at the ends", answer, call, RefusalTest::atTheEnds);
    }

    private static void afterRefused(String name, long answer, ToLongFunction<WheelShop> call, Supplier<WheelShop> past) {
        WheelShop asked = past.get();
        CHECK.due(name, call.applyAsLong(asked), answer);
        CHECK.due(name + ", again", call.applyAsLong(asked), answer);
        alike(name, asked, past.get());
    }

    private static void turningsBelow6000() {
        for (int kind = 0; kind < 3; kind++) {
            int by = kind;
            afterRefused("a turning below 6000, when used", -2, x -> x.turn(1, by), RefusalTest::used);
            afterRefused("a turning below 6000, at the ends", -2, x -> x.turn(0, by), RefusalTest::atTheEnds);
        }
    }

    private static void emptyAndFull() {
        afterRefused("sell none", -2, x -> x.sell(), WheelShop::new);
        afterRefused("forget none", -2, x -> x.forget(), WheelShop::new);
        for (int size : new int[] {6000, 7000, 9200}) {
            afterRefused("a ninth spare", -3, x -> x.spare(size), RefusalTest::filled);
        }
        for (int wheel = 0; wheel < 16; wheel++) {
            int of = wheel;
            afterRefused("a hand's reading too many", -3, x -> x.read(of, 0, 5000), RefusalTest::filled);
            afterRefused("the reader's reading too many", -3, x -> x.read(of, 1, 10000), RefusalTest::filled);
        }
    }

    /** Where a wrong number meets a state that would be refused too, it is the number that is told. */
    private static void badComesFirst() {
        for (int kind : new int[] {-1, 3, Integer.MIN_VALUE, Integer.MAX_VALUE}) {
            afterRefused("no kind, and below 6000", -1, x -> x.turn(1, kind), RefusalTest::used);
            afterRefused("no kind, and below 6000", -1, x -> x.turn(0, kind), RefusalTest::atTheEnds);
        }
        for (int size : new int[] {5999, 9201, Integer.MIN_VALUE, Integer.MAX_VALUE}) {
            afterRefused("a bad ninth spare", -1, x -> x.spare(size), RefusalTest::filled);
        }
        for (int wheel : NO_WHEEL) {
            afterRefused("a reading too many of no wheel", -1, x -> x.read(wheel, 1, 9500), RefusalTest::filled);
        }
        for (int by : new int[] {-1, 2, Integer.MIN_VALUE, Integer.MAX_VALUE}) {
            afterRefused("a reading too many by none", -1, x -> x.read(1, by, 9500), RefusalTest::filled);
        }
        for (int size : new int[] {4999, 10001, Integer.MIN_VALUE, Integer.MAX_VALUE}) {
            afterRefused("a bad reading too many", -1, x -> x.read(1, 0, size), RefusalTest::filled);
        }
    }

    /** Something of everything; wheel 1 is too small to be turned by any kind. */
    private static WheelShop used() {
        WheelShop x = new WheelShop();
        for (int k = 0; k < 16; k++) {
            x.size(k, 8900 + 7 * k);
            x.wear(k, k);
            x.depth(k, k % 5, 3 * k);
        }
        x.size(1, 6008);
        x.depth(1, 3, 60);
        x.miles(123);
        x.cut(2, 5);
        x.turn(4, 1);
        x.look(7);
        x.law(2, 70);
        x.thinning(9);
        x.bar(300);
        for (int n = 0; n < 6; n++) {
            x.pass(2, 250 + 20 * n);
            x.spare(7000 + n * n);
            x.read(n % 3, n % 2, 7000 + 3 * n);
        }
        return x;
    }

    private static WheelShop filled() {
        WheelShop x = used();
        for (int n = 6; n < 8; n++) {
            x.spare(7000 + n);
        }
        for (int n = 6; n < 20; n++) {
            x.read(n % 16, n % 2, 7000 + n);
        }
        return x;
    }

    /** Every number at one of its ends; wheel 0 is too small to be turned by any kind. */
    private static WheelShop atTheEnds() {
        WheelShop x = new WheelShop();
        for (int k = 0; k < 16; k++) {
            x.size(k, k % 2 == 0 ? 6000 : 9200);
            x.wear(k, k % 3 == 0 ? 20 : 0);
            x.depth(k, k % 5, 99);
        }
        x.depth(0, 0, 0);
        x.depth(0, 1, 99);
        x.thinning(30);
        x.law(0, 4000);
        x.law(1, 0);
        x.law(2, 4000);
        x.law(3, 0);
        x.bar(999);
        for (int n = 0; n < 3; n++) {
            x.pass(2, 999);
            x.pass(3, 0);
        }
        x.spare(6000);
        x.spare(9200);
        x.read(0, 0, 5000);
        x.read(0, 0, 5005);
        x.read(15, 1, 10000);
        return x;
    }

    private static void alike(String after, WheelShop x, WheelShop y) {
        for (int k = 0; k < 16; k++) {
            for (int what = 0; what < 8; what++) {
                CHECK.due(after + ", then about", x.about(k, what), y.about(k, what));
            }
            CHECK.due(after + ", then kept", x.kept(k), y.kept(k));
            CHECK.due(after + ", then due", x.due(k), y.due(k));
            CHECK.due(after + ", then flat", x.flat(k), y.flat(k));
        }
        for (int what = 0; what < 6; what++) {
            CHECK.due(after + ", then count", x.count(what), y.count(what));
        }
        for (int what = 0; what < 4; what++) {
            CHECK.due(after + ", then offset", x.offset(what), y.offset(what));
            CHECK.due(after + ", then law", x.law(what, 15), y.law(what, 15));
        }
        CHECK.due(after + ", then trace", x.trace(), y.trace());
        CHECK.due(after + ", then broken", x.broken(), y.broken());
        CHECK.due(after + ", then pairs", x.pairs(0), y.pairs(0));
        CHECK.due(after + ", then their sum", x.pairs(1), y.pairs(1));
        for (int k = 1; k < 4; k++) {
            CHECK.due(after + ", then cut", x.cut(k - 1, k), y.cut(k - 1, k));
            CHECK.due(after + ", then turn", x.turn(k, k - 1), y.turn(k, k - 1));
        }
        alikePasses(after, x, y);
        alikeSparesAndReadings(after, x, y);
        CHECK.due(after + ", then miles", x.miles(500), y.miles(500));
        CHECK.due(after + ", then steel", x.steel(), y.steel());
        CHECK.due(after + ", then even", x.even(), y.even());
        CHECK.due(after + ", then trace", x.trace(), y.trace());
    }

    /** Whether flat by several bars, while what was there goes pass by pass. */
    private static void alikePasses(String after, WheelShop x, WheelShop y) {
        CHECK.due(after + ", then bar", x.bar(1), y.bar(1));
        for (int n = 0; n < 4; n++) {
            for (int bar = 270; bar <= 350; bar += 20) {
                x.bar(bar);
                y.bar(bar);
                CHECK.due(after + ", then flat", x.flat(2), y.flat(2));
            }
            CHECK.due(after + ", then a pass", x.pass(2, 999 * (n % 2)), y.pass(2, 999 * (n % 2)));
        }
    }

    /** What is told of spares and readings, while the latest go one by one. */
    private static void alikeSparesAndReadings(String after, WheelShop x, WheelShop y) {
        CHECK.due(after + ", then a spare", x.spare(7001), y.spare(7001));
        CHECK.due(after + ", then a reading", x.read(1, 1, 7001), y.read(1, 1, 7001));
        while (y.sell() >= 0) {
            x.sell();
            CHECK.due(after + ", then their sum", x.pairs(1), y.pairs(1));
        }
        CHECK.due(after + ", then none to sell", x.sell(), -2);
        while (y.forget() >= 0) {
            x.forget();
            CHECK.due(after + ", then how many offsets", x.offset(2), y.offset(2));
            CHECK.due(after + ", then the fewest", x.offset(3), y.offset(3));
        }
        CHECK.due(after + ", then none to forget", x.forget(), -2);
    }
}
