/** Promise by promise: ordinary inputs, the edges that the document names, and wrong inputs. */
public final class PromiseTest {
    private static final Check CHECK = new Check("PromiseTest");
    private static final int BAD = -1;
    private static final int STATE = -2;
    private static final int FULL = -3;
    private static final int NONE = -9;
    private static final int NO = -1000000;
    private static final int[] NO_WHEEL = {-1, 16, Integer.MIN_VALUE, Integer.MAX_VALUE};

    public static void main(String[] args) {
        promise1NewObject();
        promise2Size();
        promise3Depth();
        promise4Wear();
        promise5About();
        promise6Thinning();
        promise7Cut();
        promise8Turn();
        promise9Miles();
        promise10Law();
        promise11Broken();
        promise12Kept();
        promise13Steel();
        promise14Even();
        promise15Spare();
        promise16Sell();
        promise17Pairs();
        promise18Read();
        promise19Forget();
        promise20OffsetsThatAgree();
        promise20Fewest();
        promise21Pass();
        promise22Bar();
        promise23Flat();
        promise24Look();
        promise25Due();
        promise26Count();
        promise27Trace();
        CHECK.end();
    }

    private static void due(String call, long got, long want) {
        CHECK.due(call, got, want);
    }

    private static WheelShop withDepths(int... depths) {
        WheelShop x = new WheelShop();
        for (int i = 0; i < 5; i++) {
            x.depth(3, i, depths[i]);
        }
        return x;
    }

    private static void dueDepths(String when, WheelShop x, int wheel, int... depths) {
        for (int i = 0; i < 5; i++) {
            due(when + ": depth " + i, x.about(wheel, i + 1), depths[i]);
        }
    }

    private static void promise1NewObject() {
        WheelShop x = new WheelShop();
        for (int k = 0; k < 16; k++) {
            due("1: size", x.about(k, 0), 9000);
            dueDepths("1", x, k, 0, 0, 0, 0, 0);
            due("1: wear", x.about(k, 6), 0);
            due("1: road", x.about(k, 7), 0);
            due("1: due", x.due(k), 1000);
            due("1: flat", x.flat(k), 0);
        }
        int[] counts = {0, 0, 0, 6, 500, 0};
        for (int what = 0; what < 6; what++) {
            due("1: count", x.count(what), counts[what]);
        }
        int[] laws = {10, 40, 80, 4000};
        for (int what = 0; what < 4; what++) {
            due("1: law", x.law(what, 1), laws[what]);
        }
        due("1: trace", x.trace(), 0);
        new WheelShop().size(0, 6000);
        due("1: no other object's size", new WheelShop().about(0, 0), 9000);
    }

    private static void promise2Size() {
        WheelShop x = new WheelShop();
        due("2: size(15, 6000)", x.size(15, 6000), 9000);
        due("2: size(15, 9200)", x.size(15, 9200), 6000);
        due("2: size(0, 7001)", x.size(0, 7001), 9000);
        due("2: size(15, 5999)", x.size(15, 5999), BAD);
        due("2: size(15, 9201)", x.size(15, 9201), BAD);
        for (int wheel : NO_WHEEL) {
            due("2: size of no wheel", x.size(wheel, 7000), BAD);
        }
        due("2: size of 15", x.about(15, 0), 9200);
        due("2: size of 0", x.about(0, 0), 7001);
        due("2: size of 14", x.about(14, 0), 9000);
    }

    private static void promise3Depth() {
        WheelShop x = new WheelShop();
        due("3: depth(15, 4, 99)", x.depth(15, 4, 99), 0);
        due("3: depth(15, 4, 98)", x.depth(15, 4, 98), 99);
        due("3: depth(15, 0, 0)", x.depth(15, 0, 0), 0);
        due("3: depth(15, 2, 7)", x.depth(15, 2, 7), 0);
        due("3: depth(15, 4, 100)", x.depth(15, 4, 100), BAD);
        due("3: depth(15, 4, -1)", x.depth(15, 4, -1), BAD);
        due("3: depth(15, 5, 1)", x.depth(15, 5, 1), BAD);
        due("3: depth(15, -1, 1)", x.depth(15, -1, 1), BAD);
        due("3: depth(15, MIN, 1)", x.depth(15, Integer.MIN_VALUE, 1), BAD);
        for (int wheel : NO_WHEEL) {
            due("3: depth of no wheel", x.depth(wheel, 0, 1), BAD);
        }
        dueDepths("3", x, 15, 0, 0, 7, 0, 98);
        dueDepths("3", x, 14, 0, 0, 0, 0, 0);
    }

    private static void promise4Wear() {
        WheelShop x = new WheelShop();
        due("4: wear(0, 20)", x.wear(0, 20), 0);
        due("4: wear(0, 0)", x.wear(0, 0), 20);
        due("4: wear(0, 13)", x.wear(0, 13), 0);
        due("4: wear(0, 21)", x.wear(0, 21), BAD);
        due("4: wear(0, -1)", x.wear(0, -1), BAD);
        for (int wheel : NO_WHEEL) {
            due("4: wear of no wheel", x.wear(wheel, 1), BAD);
        }
        due("4: wear of 0", x.about(0, 6), 13);
        due("4: wear of 1", x.about(1, 6), 0);
    }

    private static void promise5About() {
        WheelShop x = new WheelShop();
        x.size(7, 8000);
        for (int i = 0; i < 5; i++) {
            x.depth(7, i, 10 + i);
        }
        x.wear(7, 9);
        x.miles(5);
        int[] seen = {8000, 10, 11, 12, 13, 14, 9, 5};
        for (int what = 0; what < 8; what++) {
            due("5: about(7, " + what + ")", x.about(7, what), seen[what]);
        }
        due("5: about(7, 8)", x.about(7, 8), BAD);
        due("5: about(7, -1)", x.about(7, -1), BAD);
        for (int wheel : NO_WHEEL) {
            due("5: about no wheel", x.about(wheel, 0), BAD);
        }
        x.turn(7, 0);
        due("5: road since the turning", x.about(7, 7), 0);
        due("5: road of another", x.about(6, 7), 5);
        x.miles(3);
        x.look(6);
        due("5: road since the look", x.about(6, 7), 0);
        due("5: road of the turned one", x.about(7, 7), 3);
        due("5: road of neither", x.about(5, 7), 8);
    }

    private static void promise6Thinning() {
        WheelShop x = withDepths(50, 0, 0, 0, 0);
        due("6: thinning(30)", x.thinning(30), 6);
        due("6: cut by it", x.cut(1, 3), 20);
        due("6: thinning(31)", x.thinning(31), BAD);
        due("6: thinning(-1)", x.thinning(-1), BAD);
        due("6: thinning(0)", x.thinning(0), 30);
        due("6: cut by none", x.cut(1, 3), 50);
        due("6: thinning(1)", x.thinning(1), 0);
    }

    private static void dueCuts(String of, WheelShop x, int full, int thin, int even) {
        due("7: full cut of " + of, x.cut(0, 3), full);
        due("7: thin cut of " + of, x.cut(1, 3), thin);
        due("7: even cut of " + of, x.cut(2, 3), even);
    }

    private static void promise7Cut() {
        dueCuts("a new wheel", new WheelShop(), 0, 0, 0);
        dueCuts("first greatest alone", withDepths(20, 3, 7, 3, 5), 17, 11, 12);
        dueCuts("first greatest with others", withDepths(20, 20, 7, 3, 20), 17, 11, 12);
        dueCuts("first not greatest", withDepths(19, 3, 7, 3, 20), 17, 17, 18);
        dueCuts("no more than the thinning", withDepths(6, 0, 0, 0, 0), 6, 0, 0);
        dueCuts("less than the thinning", withDepths(9, 9, 9, 9, 4), 5, 0, 0);
        dueCuts("one more than the thinning", withDepths(7, 0, 1, 2, 3), 7, 1, 2);
        dueCuts("the deepest", withDepths(0, 0, 99, 0, 0), 99, 99, 100);
        dueCuts("greatest next to the first", withDepths(1, 10, 3, 2, 4), 9, 9, 10);
        dueCuts("all alike", withDepths(50, 50, 50, 50, 50), 0, 0, 0);
        dueCuts("least at the end", withDepths(11, 12, 13, 14, 10), 4, 4, 4);
        dueCuts("least next to the first", withDepths(11, 10, 13, 14, 12), 4, 4, 4);
        WheelShop x = withDepths(1, 2, 3, 4, 5);
        due("7: cut(-1, 3)", x.cut(-1, 3), BAD);
        due("7: cut(3, 3)", x.cut(3, 3), BAD);
        for (int wheel : NO_WHEEL) {
            due("7: cut of no wheel", x.cut(0, wheel), BAD);
        }
        due("7: cut of another wheel", x.cut(0, 2), 0);
        dueDepths("7: a cut turns nothing", x, 3, 1, 2, 3, 4, 5);
        due("7: a cut turns nothing", x.about(3, 0), 9000);
    }

    private static void promise8Turn() {
        WheelShop x = withDepths(20, 3, 7, 3, 5);
        due("8: turn(3, 1)", x.turn(3, 1), 9000 - 22);
        dueDepths("8: thin", x, 3, 6, 0, 0, 0, 0);
        due("8: size of 2", x.about(2, 0), 9000);
        x = withDepths(19, 13, 20, 3, 3);
        due("8: turn(3, 2)", x.turn(3, 2), 9000 - 36);
        dueDepths("8: even", x, 3, 0, 0, 0, 0, 0);
        x = withDepths(30, 40, 50, 60, 70);
        due("8: turn(3, 0)", x.turn(3, 0), 9000 - 80);
        dueDepths("8: full", x, 3, 0, 0, 0, 0, 0);
        x = withDepths(36, 40, 31, 32, 30);
        x.depth(3, 0, 40);
        due("8: turn(3, 1)", x.turn(3, 1), 9000 - 8);
        dueDepths("8: thin, greatest with another", x, 3, 6, 6, 0, 0, 0);
        x = withDepths(0, 0, 0, 10, 0);
        x.miles(9);
        x.size(3, 6019);
        due("8: below 6000", x.turn(3, 0), STATE);
        due("8: refused, no turning", x.count(5), 0);
        due("8: refused, road stays", x.about(3, 7), 9);
        due("8: refused, size stays", x.about(3, 0), 6019);
        dueDepths("8: refused", x, 3, 0, 0, 0, 10, 0);
        x.size(3, 6020);
        due("8: 6000 itself", x.turn(3, 0), 6000);
        due("8: road after it", x.about(3, 7), 0);
        due("8: road of another", x.about(2, 7), 9);
        due("8: nothing to cut at 6000", x.turn(3, 2), 6000);
        due("8: turnings", x.count(5), 2);
        x.depth(3, 1, 99);
        due("8: turn(3, -1)", x.turn(3, -1), BAD);
        due("8: turn(3, 3): BAD comes before STATE", x.turn(3, 3), BAD);
        for (int wheel : NO_WHEEL) {
            due("8: turn of no wheel", x.turn(wheel, 0), BAD);
        }
        x.pass(1, 999);
        x.pass(1, 999);
        x.pass(1, 999);
        x.turn(1, 0);
        due("8: passes stay", x.flat(1), 1);
    }

    private static void promise9Miles() {
        WheelShop x = withDepths(98, 90, 99, 0, 97);
        x.wear(3, 20);
        x.size(3, 6005);
        x.wear(4, 7);
        due("9: miles(33)", x.miles(33), 0);
        dueDepths("9: wear 20", x, 3, 99, 96, 99, 6, 99);
        due("9: 6000 at least", x.about(3, 0), 6000);
        dueDepths("9: wear 7, rounded down twice", x, 4, 1, 2, 2, 2, 1);
        due("9: size less", x.about(4, 0), 8998);
        dueDepths("9: no wear", x, 5, 0, 0, 0, 0, 0);
        due("9: no wear", x.about(5, 0), 9000);
        due("9: road of all", x.about(5, 7), 33);
        x = new WheelShop();
        x.wear(0, 1);
        due("9: miles(99)", x.miles(99), 0);
        due("9: too few to wear", x.about(0, 0), 9000);
        due("9: miles(500)", x.miles(500), 0);
        due("9: as far as 100 a mile of wear", x.about(0, 0), 8995);
        dueDepths("9: half of five", x, 0, 2, 5, 5, 5, 2);
        x.look(8);
        due("9: miles(400)", x.miles(400), 0);
        due("9: miles(1)", x.miles(1), 15);
        x.turn(9, 0);
        due("9: after a turning", x.miles(1), 14);
        due("9: beyond it", x.miles(500), 14);
        due("9: road goes on", x.about(0, 7), 1501);
        due("9: miles(0)", x.miles(0), BAD);
        due("9: miles(501)", x.miles(501), BAD);
        due("9: miles(MIN)", x.miles(Integer.MIN_VALUE), BAD);
        due("9: refused", x.about(0, 7), 1501);
    }

    private static void promise10Law() {
        WheelShop x = new WheelShop();
        int[] first = {10, 40, 80, 4000};
        for (int what = 0; what < 4; what++) {
            due("10: law to 0", x.law(what, 0), first[what]);
            due("10: law to 4000", x.law(what, 4000), 0);
            due("10: law to 4001", x.law(what, 4001), BAD);
            due("10: law to -1", x.law(what, -1), BAD);
            due("10: law to its number", x.law(what, 7 + what), 4000);
        }
        for (int what = 0; what < 4; what++) {
            due("10: each its own", x.law(what, 1), 7 + what);
        }
        due("10: law(-1, 5)", x.law(-1, 5), BAD);
        due("10: law(4, 5)", x.law(4, 5), BAD);
        due("10: law(MAX, 5)", x.law(Integer.MAX_VALUE, 5), BAD);
    }

    private static void promise11Broken() {
        WheelShop x = new WheelShop();
        x.size(0, 8990);
        due("11: ten apart", x.broken(), 0);
        x.size(0, 8989);
        due("11: the axle alone", x.broken(), 1);
        x.size(0, 8960);
        due("11: forty apart", x.broken(), 1);
        x.size(0, 8959);
        due("11: the bogie too", x.broken(), 3);
        x.size(0, 8920);
        due("11: eighty apart", x.broken(), 3);
        x.size(0, 8919);
        due("11: the car too", x.broken(), 7);
        x.law(3, 80);
        due("11: the train too", x.broken(), 15);
        x.law(0, 4000);
        due("11: the axle's law is its own, however wide", x.broken(), 14);
        x.law(3, 81);
        due("11: the train's law no more", x.broken(), 6);
        x = new WheelShop();
        for (int k = 0; k < 16; k++) {
            x.size(k, 6000 + 200 * k);
        }
        due("11: all far apart, but by the train's law", x.broken(), 56);
        x.law(3, 0);
        due("11: every pair", x.broken(), 120);
        for (int what = 0; what < 4; what++) {
            x.law(what, 4000);
        }
        due("11: no pair", x.broken(), 0);
    }

    private static void promise12Kept() {
        WheelShop x = new WheelShop();
        x.size(15, 6000);
        int[] kept = {9000, 9000, 9000, 9000, 9000, 9000, 9000, 9000, 6080, 6080, 6080, 6080, 6040, 6040, 6010, 6000};
        for (int k = 0; k < 16; k++) {
            due("12: kept(" + k + ")", x.kept(k), kept[k]);
        }
        due("12: nothing is lost yet", x.about(14, 0), 9000);
        // By laws of many that are narrower than those of few, the way from wheel to wheel goes over others.
        x.law(0, 4000);
        x.law(1, 300);
        x.law(2, 50);
        due("12: over a wheel of the car", x.kept(14), 6100);
        due("12: over a wheel of the car", x.kept(13), 6100);
        due("12: the car", x.kept(8), 6050);
        x.law(3, 7);
        due("12: over the train", x.kept(14), 6014);
        due("12: over the train", x.kept(8), 6014);
        due("12: the train", x.kept(0), 6007);
        x.size(3, 6003);
        due("12: a wheel's own size", x.kept(3), 6003);
        x = new WheelShop();
        x.law(1, 100);
        x.law(2, 5);
        x.size(2, 8000);
        due("12: one on the way", x.kept(4), 8005);
        due("12: an earlier one by way of it", x.kept(0), 8010);
        for (int wheel : NO_WHEEL) {
            due("12: kept of no wheel", x.kept(wheel), BAD);
        }
    }

    private static void promise13Steel() {
        WheelShop x = new WheelShop();
        due("13: all alike", x.steel(), 0);
        x.size(0, 8980);
        due("13: one too large", x.steel(), 10);
        x.size(8, 8000);
        due("13: two cars", x.steel(), 10 + 990 + 2 * 960 + 4 * 920);
        x.law(3, 0);
        due("13: all to the least", x.steel(), 980 + 14 * 1000);
        due("13: asked, not done", x.about(0, 0), 8980);
        x = new WheelShop();
        x.size(1, 8980);
        due("13: the first wheel's loss", x.steel(), 10);
    }

    private static void promise14Even() {
        WheelShop x = new WheelShop();
        due("14: nothing to even", x.even(), 0);
        x.size(0, 8930);
        x.depth(1, 2, 5);
        x.miles(3);
        due("14: even()", x.even(), 3);
        due("14: size of 0", x.about(0, 0), 8930);
        due("14: size of 1", x.about(1, 0), 8940);
        due("14: size of 2", x.about(2, 0), 8970);
        due("14: size of 4", x.about(4, 0), 9000);
        due("14: no pair is broken", x.broken(), 0);
        due("14: no steel is left to lose", x.steel(), 0);
        due("14: again", x.even(), 0);
        due("14: no turning", x.count(5), 0);
        due("14: road stays", x.about(1, 7), 3);
        due("14: depth stays", x.about(1, 3), 5);
        x = new WheelShop();
        x.size(1, 8980);
        due("14: the first wheel too", x.even(), 1);
        due("14: its size", x.about(0, 0), 8990);
    }

    private static void promise15Spare() {
        WheelShop x = new WheelShop();
        due("15: spare(5999)", x.spare(5999), BAD);
        due("15: spare(9201)", x.spare(9201), BAD);
        for (int n = 0; n < 8; n++) {
            due("15: its number", x.spare(n % 2 == 0 ? 6000 : 9200), n);
        }
        due("15: a ninth", x.spare(7000), FULL);
        due("15: BAD comes before FULL", x.spare(5999), BAD);
        due("15: eight", x.count(0), 8);
        due("15: pairs stay", x.pairs(0), 4);
        x.sell();
        due("15: room again", x.spare(7000), 7);
    }

    private static void promise16Sell() {
        WheelShop x = new WheelShop();
        due("16: none", x.sell(), STATE);
        x.spare(7000);
        x.spare(7001);
        x.spare(6000);
        due("16: the latest is gone", x.sell(), 2);
        due("16: the others are not", x.pairs(1), 1);
        due("16: one left", x.sell(), 1);
        due("16: none left", x.sell(), 0);
        due("16: none", x.sell(), STATE);
        due("16: none", x.count(0), 0);
    }

    private static WheelShop withSpares(int... sizes) {
        WheelShop x = new WheelShop();
        for (int size : sizes) {
            x.spare(size);
        }
        return x;
    }

    private static void duePairs(String of, WheelShop x, int many, int sum) {
        due("17: pairs of " + of, x.pairs(0), many);
        due("17: sum of " + of, x.pairs(1), sum);
    }

    private static void promise17Pairs() {
        duePairs("none", withSpares(), 0, 0);
        duePairs("one", withSpares(7000), 0, 0);
        duePairs("ten apart", withSpares(7010, 7000), 1, 10);
        duePairs("eleven apart", withSpares(7011, 7000), 0, 0);
        duePairs("as many as can be, though nearer ones were there", withSpares(7010, 7001, 7000, 7002), 2, 9);
        duePairs("not only the nearest", withSpares(7000, 7009, 7010, 7019), 2, 18);
        duePairs("one left over in the middle", withSpares(7030, 7000, 7010, 7020, 7002), 2, 12);
        duePairs("the nearer two of three", withSpares(7000, 7010, 7009), 1, 1);
        duePairs("all alike", withSpares(8000, 8000, 8000, 8000, 8000, 8000, 8000, 8000), 4, 0);
        duePairs("eight in no order", withSpares(9000, 6000, 6009, 8991, 7003, 7000, 6500, 6510), 4, 31);
        duePairs("seven, the best one left out", withSpares(7006, 7000, 7003, 7012, 7008, 7009, 7020), 3, 8);
        WheelShop x = withSpares(7000, 9000, 7500);
        x.law(0, 4000);
        duePairs("by a wide law", x, 1, 500);
        x.law(0, 499);
        duePairs("by the axle's law alone", x, 0, 0);
        due("17: pairs(-1)", x.pairs(-1), BAD);
        due("17: pairs(2)", x.pairs(2), BAD);
    }

    private static void promise18Read() {
        WheelShop x = new WheelShop();
        due("18: read(0, 2, 7000)", x.read(0, 2, 7000), BAD);
        due("18: read(0, -1, 7000)", x.read(0, -1, 7000), BAD);
        due("18: read(0, 0, 4999)", x.read(0, 0, 4999), BAD);
        due("18: read(0, 1, 10001)", x.read(0, 1, 10001), BAD);
        for (int wheel : NO_WHEEL) {
            due("18: read of no wheel", x.read(wheel, 0, 7000), BAD);
        }
        due("18: none yet", x.count(1), 0);
        for (int n = 1; n <= 20; n++) {
            due("18: how many", x.read(n % 16, n % 2, n % 4 < 2 ? 5000 : 10000), n);
        }
        due("18: one more", x.read(0, 0, 7000), FULL);
        due("18: BAD comes before FULL", x.read(0, 0, 4999), BAD);
        due("18: twenty", x.count(1), 20);
        x.forget();
        due("18: room again", x.read(0, 0, 7000), 20);
    }

    private static void promise19Forget() {
        WheelShop x = new WheelShop();
        due("19: none", x.forget(), STATE);
        x.read(5, 0, 7000);
        x.read(5, 1, 7000);
        x.read(5, 1, 7100);
        due("19: the latest is gone", x.forget(), 2);
        due("19: the others are not", x.offset(2), 15);
        due("19: one left", x.forget(), 1);
        due("19: none left", x.forget(), 0);
        due("19: none", x.forget(), STATE);
        due("19: none", x.count(1), 0);
    }

    private static void dueOffsets(String of, WheelShop x, int least, int greatest, int many, int fewest) {
        due("20: least of " + of, x.offset(0), least);
        due("20: greatest of " + of, x.offset(1), greatest);
        due("20: how many of " + of, x.offset(2), many);
        due("20: fewest of " + of, x.offset(3), fewest);
    }

    private static void promise20OffsetsThatAgree() {
        WheelShop x = new WheelShop();
        dueOffsets("no readings", x, -200, 200, 401, 0);
        x.read(0, 1, 8000);
        dueOffsets("a wheel without hands", x, -200, 200, 401, 0);
        x.read(15, 0, 8000);
        dueOffsets("hands of another wheel", x, -200, 200, 401, 0);
        x.read(15, 1, 7900);
        dueOffsets("a hand and the reader", x, -107, -93, 15, 0);
        x.read(15, 0, 8004);
        dueOffsets("hands four apart: one size alone", x, -107, -97, 11, 0);
        x.read(15, 1, 7910);
        dueOffsets("readings ten apart: one offset alone", x, -97, -97, 1, 0);
        x.read(14, 0, 6000);
        x.read(14, 1, 5896);
        dueOffsets("another wheel, as low as it agrees", x, -97, -97, 1, 0);
        x.forget();
        x.read(14, 1, 5895);
        dueOffsets("another wheel, lower", x, NO, NO, 0, 1);
        x.forget();
        x.read(14, 1, 5910);
        dueOffsets("another wheel, as high as it agrees", x, -97, -97, 1, 0);
        x.forget();
        x.read(14, 1, 5911);
        dueOffsets("another wheel, higher", x, NO, NO, 0, 1);
        x.forget();
        x.size(15, 6000);
        dueOffsets("sizes as they are now play no part", x, -97, -97, 1, 0);
        x.read(13, 0, 7000);
        x.read(13, 1, 7000);
        dueOffsets("another wheel that does not agree", x, NO, NO, 0, 1);
        x = new WheelShop();
        x.read(0, 0, 7000);
        x.read(0, 1, 7207);
        dueOffsets("the greatest offset alone", x, 200, 200, 1, 0);
        x.read(1, 0, 7000);
        x.read(1, 1, 6793);
        dueOffsets("the greatest and the least", x, NO, NO, 0, 1);
        x = new WheelShop();
        x.read(0, 0, 7000);
        x.read(0, 1, 7208);
        dueOffsets("an offset too great", x, NO, NO, 0, 1);
        x = new WheelShop();
        x.read(0, 0, 7000);
        x.read(0, 1, 6793);
        dueOffsets("the least offset alone", x, -200, -200, 1, 0);
        due("20: offset(-1)", x.offset(-1), NO + 1);
        due("20: offset(4)", x.offset(4), NO + 1);
        due("20: offset(MIN)", x.offset(Integer.MIN_VALUE), NO + 1);
    }

    private static void promise20Fewest() {
        WheelShop x = new WheelShop();
        x.read(0, 0, 5000);
        x.read(0, 0, 5005);
        dueOffsets("hands five apart", x, NO, NO, 0, NONE);
        x.read(1, 1, 7000);
        dueOffsets("hands of one wheel contradict all", x, NO, NO, 0, NONE);
        x = new WheelShop();
        x.read(2, 1, 7000);
        x.read(2, 1, 7011);
        dueOffsets("readings eleven apart, no hands", x, NO, NO, 0, 1);
        x.read(2, 1, 7021);
        x.read(2, 1, 7022);
        dueOffsets("the middle and the last three", x, NO, NO, 0, 2);
        x = new WheelShop();
        // Three wheels: two say an offset about 50, with two readings each; one says -50, with three.
        for (int wheel = 0; wheel < 3; wheel++) {
            x.read(wheel, 0, 8000);
            x.read(wheel, 1, wheel == 1 ? 7950 : 8050);
            x.read(wheel, 1, wheel == 1 ? 7951 : 8052);
        }
        x.read(1, 1, 7949);
        dueOffsets("one wheel against two", x, NO, NO, 0, 3);
        x.read(1, 1, 7949);
        x.read(1, 1, 7949);
        dueOffsets("one wheel over two", x, NO, NO, 0, 4);
        x = new WheelShop();
        x.read(4, 0, 7000);
        x.read(4, 1, 7208);
        x.read(4, 1, 9000);
        x.read(4, 1, 6000);
        dueOffsets("every reading left out", x, NO, NO, 0, 3);
        // Readings that agree with one offset each by sizes of its own, but not all by one size.
        x = new WheelShop();
        x.read(6, 0, 7000);
        x.read(6, 1, 7100);
        x.read(6, 1, 7112);
        dueOffsets("one size for all readings", x, NO, NO, 0, 1);
        // The readings told first count as the later ones do, and what is forgotten no more.
        x = new WheelShop();
        x.read(0, 1, 8050);
        x.read(1, 1, 8040);
        x.read(1, 0, 8000);
        x.read(0, 0, 8000);
        dueOffsets("two wheels that overlap", x, 43, 47, 5, 0);
        x.forget();
        dueOffsets("the first wheel's hand forgotten", x, 33, 47, 15, 0);
        x.forget();
        dueOffsets("both hands forgotten", x, -200, 200, 401, 0);
        x = new WheelShop();
        for (int n = 0; n < 20; n++) {
            x.read(15, 1, 9000 + n);
        }
        dueOffsets("twenty readings, a step apart", x, NO, NO, 0, 9);
        while (x.count(1) > 11) {
            x.forget();
        }
        dueOffsets("eleven of them", x, -200, 200, 401, 0);
        x.forget();
        x.read(14, 1, 9000);
        x.read(14, 1, 9011);
        x.forget();
        x.read(14, 1, 9900);
        dueOffsets("with two that contradict", x, NO, NO, 0, 1);
    }

    private static void promise21Pass() {
        WheelShop x = new WheelShop();
        due("21: one", x.pass(9, 500), 0);
        due("21: two", x.pass(9, 999), 0);
        due("21: below the bar", x.pass(9, 499), 0);
        due("21: three", x.pass(9, 500), 1);
        due("21: the fifth", x.pass(9, 0), 1);
        due("21: the sixth, the first is gone", x.pass(9, 0), 0);
        due("21: the seventh", x.pass(9, 500), 0);
        due("21: the eighth", x.pass(9, 500), 1);
        due("21: of another", x.pass(8, 999), 0);
        due("21: pass(9, 1000)", x.pass(9, 1000), BAD);
        due("21: pass(9, -1)", x.pass(9, -1), BAD);
        for (int wheel : NO_WHEEL) {
            due("21: pass of no wheel", x.pass(wheel, 0), BAD);
        }
        due("21: refused", x.flat(9), 1);
        for (int n = 0; n < 3; n++) {
            x.pass(9, 0);
        }
        due("21: gone with the time", x.flat(9), 0);
    }

    private static void promise22Bar() {
        WheelShop x = new WheelShop();
        for (int n = 0; n < 3; n++) {
            x.pass(2, 600);
        }
        due("22: bar(600)", x.bar(600), 500);
        due("22: as much as it", x.flat(2), 1);
        due("22: bar(601)", x.bar(601), 600);
        due("22: less than it", x.flat(2), 0);
        due("22: bar(999)", x.bar(999), 601);
        due("22: bar(1000)", x.bar(1000), BAD);
        due("22: bar(-1)", x.bar(-1), BAD);
        due("22: bar(0)", x.bar(0), 999);
        due("22: bar as it is", x.count(4), 0);
    }

    private static void promise23Flat() {
        WheelShop x = new WheelShop();
        x.bar(0);
        due("23: no passes", x.flat(0), 0);
        x.pass(0, 0);
        x.pass(0, 0);
        due("23: two passes alone", x.flat(0), 0);
        x.pass(0, 0);
        due("23: three", x.flat(0), 1);
        due("23: another", x.flat(1), 0);
        for (int wheel : NO_WHEEL) {
            due("23: flat of no wheel", x.flat(wheel), BAD);
        }
    }

    private static void promise24Look() {
        WheelShop x = new WheelShop();
        due("24: a new wheel", x.look(3), 1000);
        x.miles(500);
        x.miles(501 - 1);
        x.miles(1);
        due("24: as it was", x.look(3), -1);
        due("24: then", x.due(3), 1000);
        due("24: again", x.look(3), 1000);
        due("24: another", x.due(4), -1);
        for (int wheel : NO_WHEEL) {
            due("24: look at no wheel", x.look(wheel), NO);
        }
        due("24: no turning", x.count(5), 0);
    }

    private static void promise25Due() {
        WheelShop x = new WheelShop();
        x.miles(300);
        due("25: due", x.due(15), 700);
        x.turn(15, 1);
        due("25: turned", x.due(15), 1000);
        due("25: not turned", x.due(14), 700);
        x.miles(500);
        x.look(14);
        x.miles(500);
        due("25: none left", x.due(15), 0);
        due("25: looked at", x.due(14), 500);
        due("25: overdue", x.due(13), -300);
        for (int wheel : NO_WHEEL) {
            due("25: due of no wheel", x.due(wheel), NO);
        }
    }

    private static void promise26Count() {
        WheelShop x = new WheelShop();
        x.spare(7000);
        for (int n = 0; n < 3; n++) {
            x.pass(0, 999);
            x.pass(7, 999);
            x.pass(15, 999);
        }
        x.read(0, 0, 7000);
        x.read(0, 0, 7000);
        x.thinning(4);
        x.bar(501);
        for (int n = 0; n < 6; n++) {
            x.turn(n / 2, n % 3);
        }
        int[] counts = {1, 2, 3, 4, 501, 6};
        for (int what = 0; what < 6; what++) {
            due("26: count(" + what + ")", x.count(what), counts[what]);
        }
        due("26: count(-1)", x.count(-1), BAD);
        due("26: count(6)", x.count(6), BAD);
    }

    private static void promise27Trace() {
        WheelShop x = withDepths(20, 0, 0, 0, 0);
        due("27: at first", x.trace(), 0);
        x.cut(0, 3);
        due("27: full", x.trace(), 1);
        x.cut(1, 3);
        due("27: thin asks full", x.trace(), 12);
        x.cut(2, 3);
        due("27: even asks thin", x.trace(), 123);
        x.turn(3, 2);
        due("27: a turning is no cut()", x.trace(), 123);
        x.cut(3, 3);
        x.cut(2, 16);
        x.cut(-1, 3);
        due("27: refused", x.trace(), 123);
        for (int n = 0; n < 200; n++) {
            x.cut(2, n % 16);
        }
        due("27: on and on", x.trace(), 123 + 200 * 111);
    }
}
