import java.util.Map;
import java.util.TreeMap;
import java.util.function.ToLongFunction;

/**
 * What a call changes is what the document tells of it, and nothing else: of two objects with the
 * same past one gets the call, and all that can be asked of both is held against each other.
 */
public final class OnlyTest {
    private static final Check CHECK = new Check("OnlyTest");
    private static final int NO = -1000000;
    private static final int[] BARS = {0, 1, 250, 300, 350, 400, 999};

    public static void main(String[] args) {
        askingChangesNothing();
        numbersThatBecomeOthers();
        cutsComeToTheTraceAlone();
        turningsOfOneWheel();
        turningsThatTakeNothing();
        milesOfAllWheels();
        evenOfSizesAlone();
        sparesOneByOne();
        readingsOneByOne();
        readingsAreOfWhatOnceWas();
        passesOfOneWheel();
        looksAtOneWheel();
        dueIsOfTheRoadAlone();
        CHECK.end();
    }

    /** Something of everything: no two wheels are alike, and only wheels 3 and 4 have wear. */
    private static WheelShop past() {
        WheelShop x = new WheelShop();
        x.miles(30);
        for (int k = 0; k < 16; k++) {
            x.size(k, 8800 + 13 * (k * 5 % 16));
            x.depth(k, k % 5, 20 + k);
            x.depth(k, (k + 1) % 5, 3 + k);
        }
        x.look(5);
        x.miles(12);
        x.wear(3, 20);
        x.wear(4, 3);
        x.thinning(8);
        x.bar(350);
        x.law(1, 55);
        x.law(2, 70);
        x.law(3, 150);
        x.cut(1, 2);
        x.turn(6, 1);
        for (int n = 0; n < 6; n++) {
            x.pass(3, 260 + 40 * n);
        }
        for (int n = 0; n < 4; n++) {
            x.pass(5, 999);
        }
        for (int n = 0; n < 5; n++) {
            x.spare(7000 + n * n);
            x.read(n % 3, n % 2, 7000 + n);
        }
        return x;
    }

    /** All that stands in the object, under its name; nothing more is to be asked of the object then. */
    private static Map<String, String> standing(WheelShop x) {
        Map<String, String> all = new TreeMap<>();
        for (int k = 0; k < 16; k++) {
            put(all, "size of " + k, x.about(k, 0));
            for (int i = 0; i < 5; i++) {
                put(all, "depth " + i + " of " + k, x.about(k, 1 + i));
            }
            put(all, "wear of " + k, x.about(k, 6));
            put(all, "road of " + k, x.about(k, 7));
        }
        put(all, "thinning", x.count(3));
        put(all, "bar", x.count(4));
        put(all, "turnings", x.count(5));
        put(all, "trace", x.trace());
        for (int what = 0; what < 4; what++) {
            put(all, "law " + what, x.law(what, 4000));
        }
        for (int k = 0; k < 16; k++) {
            put(all, "flat of " + k, x.flat(k));
        }
        for (int bar : BARS) {
            x.bar(bar);
            put(all, "flats by " + bar, x.count(2));
        }
        putSparesAndReadings(all, x);
        return all;
    }

    private static void putSparesAndReadings(Map<String, String> all, WheelShop x) {
        for (int held = x.count(0); held > 0; held = x.sell()) {
            put(all, "spares, " + held + ": how many pairs", x.pairs(0));
            put(all, "spares, " + held + ": their sum", x.pairs(1));
        }
        for (int told = x.count(1); told > 0; told = x.forget()) {
            String offsets = x.offset(0) + " .. " + x.offset(1) + ", " + x.offset(2) + ", " + x.offset(3);
            all.put("readings, " + told + ": offsets", offsets);
        }
    }

    private static void put(Map<String, String> all, String name, long v) {
        all.put(name, Long.toString(v));
    }

    /** The changes are told as names, each followed by what stands there then (null: nothing). */
    private static void changes(String name, ToLongFunction<WheelShop> call, long answer, String... changes) {
        WheelShop called = past();
        CHECK.due(name, call.applyAsLong(called), answer);
        Map<String, String> due = standing(past());
        for (int i = 0; i < changes.length; i += 2) {
            String was = changes[i + 1] == null ? due.remove(changes[i]) : due.put(changes[i], changes[i + 1]);
            CHECK.holds(name + ": " + changes[i] + " is a change", !java.util.Objects.equals(was, changes[i + 1]));
        }
        Map<String, String> found = standing(called);
        CHECK.holds(name + ": as many things stand", found.keySet().equals(due.keySet()));
        due.forEach((thing, v) -> CHECK.holds(name + ": " + thing + " is " + v + ", not " + found.get(thing), v.equals(found.get(thing))));
    }

    private static void askingChangesNothing() {
        WheelShop x = past();
        int flats = 0;
        for (int what = 0; what < 8; what++) {
            int of = what;
            changes("5: about(3, " + what + ")", y -> y.about(3, of), x.about(3, what));
        }
        changes("11: broken()", WheelShop::broken, x.broken());
        for (int k = 0; k < 16; k++) {
            int of = k;
            changes("12: kept(" + k + ")", y -> y.kept(of), x.kept(k));
            changes("23: flat(" + k + ")", y -> y.flat(of), k == 3 || k == 5 ? 1 : 0);
            flats += x.flat(k);
        }
        CHECK.due("23: flat ones", flats, 2);
        changes("13: steel()", WheelShop::steel, x.steel());
        changes("17: pairs(0)", y -> y.pairs(0), 2);
        changes("17: pairs(1)", y -> y.pairs(1), 6);
        for (int what = 0; what < 4; what++) {
            int of = what;
            changes("20: offset(" + what + ")", y -> y.offset(of), new int[] {-4, 4, 9, 0}[what]);
        }
        changes("25: due(3)", y -> y.due(3), 1000 - 42);
        changes("25: due(5)", y -> y.due(5), 1000 - 12);
        for (int what = 0; what < 6; what++) {
            int of = what;
            changes("26: count(" + what + ")", y -> y.count(of), new int[] {5, 5, 2, 8, 350, 1}[what]);
        }
        changes("27: trace()", WheelShop::trace, 11);
    }

    private static void numbersThatBecomeOthers() {
        changes("2: size", x -> x.size(3, 7001), 8995, "size of 3", "7001");
        changes("2: size, as it is", x -> x.size(3, 8995), 8995);
        changes("3: depth", x -> x.depth(3, 0, 99), 0, "depth 0 of 3", "99");
        changes("3: depth, as it is", x -> x.depth(3, 3, 23), 23);
        changes("4: wear", x -> x.wear(3, 7), 20, "wear of 3", "7");
        changes("6: thinning", x -> x.thinning(30), 8, "thinning", "30");
        changes("10: law of an axle", x -> x.law(0, 3), 10, "law 0", "3");
        changes("10: law of a bogie", x -> x.law(1, 3), 55, "law 1", "3");
        changes("10: law of a car", x -> x.law(2, 3), 70, "law 2", "3");
        changes("10: law of the train", x -> x.law(3, 3), 150, "law 3", "3");
    }

    private static void cutsComeToTheTraceAlone() {
        changes("7: full", x -> x.cut(0, 3), 23, "trace", "12");
        changes("7: thin", x -> x.cut(1, 3), 23, "trace", "22");
        changes("7: even", x -> x.cut(2, 3), 24, "trace", "122");
        changes("7: thin, depth 0 the greatest", x -> x.cut(1, 5), 25 - 8, "trace", "22");
        changes("7: even of none", x -> x.cut(2, 6), 0, "trace", "122");
    }

    /** Its wear and its passes stay, and what its turning needs to know comes to no trace. */
    private static void turningsOfOneWheel() {
        changes("8: full", x -> x.turn(3, 0), 8995 - 46, "size of 3", "8949",
            "depth 3 of 3", "0", "depth 4 of 3", "0", "road of 3", "0", "turnings", "2");
        changes("8: thin, depth 0 the greatest", x -> x.turn(5, 1), 8917 - 34, "size of 5", "8883",
            "depth 0 of 5", "8", "depth 1 of 5", "0", "road of 5", "0", "turnings", "2");
        changes("8: even, depth 0 the greatest", x -> x.turn(5, 2), 8917 - 36, "size of 5", "8881",
            "depth 0 of 5", "7", "depth 1 of 5", "0", "road of 5", "0", "turnings", "2");
    }

    private static void turningsThatTakeNothing() {
        changes("8: a turning by no cut is one", x -> x.turn(6, 1), 8930, "turnings", "2");
        WheelShop x = new WheelShop();
        x.miles(400);
        CHECK.due("8: a turning by no cut", x.turn(0, 2), 9000);
        CHECK.due("25: as new", x.due(0), 1000);
        CHECK.due("26: it counts", x.count(5), 1);
    }

    private static void milesOfAllWheels() {
        String[] changes = new String[2 * (16 + 12)];
        int at = 0;
        for (int k = 0; k < 16; k++) {
            changes[at++] = "road of " + k;
            changes[at++] = Integer.toString(100 + (k == 5 ? 12 : k == 6 ? 0 : 42));
        }
        int[] three = {8975, 10, 20, 20, 43, 16};
        int[] four = {8849, 8, 3, 3, 3, 25};
        for (int i = 0; i < 6; i++) {
            changes[at++] = i == 0 ? "size of 3" : "depth " + (i - 1) + " of 3";
            changes[at++] = Integer.toString(three[i]);
            changes[at++] = i == 0 ? "size of 4" : "depth " + (i - 1) + " of 4";
            changes[at++] = Integer.toString(four[i]);
        }
        changes("9: miles", x -> x.miles(100), 0, changes);
    }

    /** What even() does is no TURNING: it is not counted, and depths and roads stay. */
    private static void evenOfSizesAlone() {
        WheelShop x = past();
        String[] changes = new String[32];
        int losers = 0;
        for (int k = 0; k < 16; k++) {
            if (x.kept(k) != x.about(k, 0)) {
                changes[2 * losers] = "size of " + k;
                changes[2 * losers + 1] = Integer.toString(x.kept(k));
                losers++;
            }
        }
        CHECK.holds("14: some lose, some don't", losers > 0 && losers < 16);
        changes("14: even", WheelShop::even, losers, java.util.Arrays.copyOf(changes, 2 * losers));
    }

    private static void sparesOneByOne() {
        changes("15: spare", x -> x.spare(7018), 5,
            "spares, 6: how many pairs", "3", "spares, 6: their sum", "8");
        changes("16: sell", x -> x.sell(), 4,
            "spares, 5: how many pairs", null, "spares, 5: their sum", null);
    }

    private static void readingsOneByOne() {
        changes("18: read by a hand", x -> x.read(0, 0, 6996), 6, "readings, 6: offsets", "0 .. 4, 5, 0");
        changes("18: read by the reader", x -> x.read(2, 1, 7010), 6, "readings, 6: offsets", "1 .. 4, 4, 0");
        changes("19: forget", x -> x.forget(), 4, "readings, 5: offsets", null);
    }

    /** The sizes before a reading, as it is told and after it play no part in what it says. */
    private static void readingsAreOfWhatOnceWas() {
        for (int size = 6000; size <= 9200; size += 400) {
            WheelShop x = new WheelShop();
            x.size(0, size);
            CHECK.due("18: a hand's, of a wheel of " + size, x.read(0, 0, 5000), 1);
            x.size(0, 15200 - size);
            CHECK.due("18: the reader's, of a wheel of " + (15200 - size), x.read(0, 1, 5100), 2);
            x.size(1, size);
            CHECK.due("18: a hand's, of a wheel of " + size, x.read(1, 0, 10000), 3);
            x.even();
            x.depth(1, 2, 9);
            x.turn(1, 0);
            CHECK.due("18: the reader's, of a wheel evened and turned", x.read(1, 1, 9897), 4);
            CHECK.due("20: least", x.offset(0), NO);
            CHECK.due("20: the fewest", x.offset(3), 1);
            x.forget();
            x.size(0, size);
            CHECK.due("20: least", x.offset(0), 93);
            CHECK.due("20: greatest", x.offset(1), 107);
        }
    }

    /** Of wheel 3 the latest five were 300, 340, 380, 420, 460; of wheel 5 there were four of 999. */
    private static void passesOfOneWheel() {
        changes("21: a low one", x -> x.pass(3, 0), 1);
        changes("21: a lower one of another", x -> x.pass(4, 0), 0);
        changes("21: a high one", x -> x.pass(3, 999), 1, "flats by 400", "2");
        changes("22: bar", x -> x.bar(381), 350, "bar", "381", "flat of 3", "0");
    }

    private static void looksAtOneWheel() {
        changes("24: look", x -> x.look(3), 1000 - 42, "road of 3", "0");
        changes("24: look at one looked at", x -> x.look(5), 1000 - 12, "road of 5", "0");
    }

    /** Neither sizes, depths and wear nor passes and even() change it. */
    private static void dueIsOfTheRoadAlone() {
        WheelShop x = past();
        x.size(3, 6000);
        x.depth(3, 2, 99);
        x.wear(3, 0);
        x.pass(3, 999);
        x.even();
        x.cut(2, 3);
        CHECK.due("25: due", x.due(3), 1000 - 42);
        CHECK.due("8: below 6000, no turning", x.turn(3, 0), -2);
        CHECK.due("25: due", x.due(3), 1000 - 42);
        CHECK.due("5: its road", x.about(3, 7), 42);
        x.miles(500);
        CHECK.due("25: due", x.due(3), 1000 - 542);
    }
}
