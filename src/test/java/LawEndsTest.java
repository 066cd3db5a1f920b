/** The ends that the document's numbers bring together, of laws and sizes (promises 10 to 14). */
public final class LawEndsTest {
    private static final Check CHECK = new Check("LawEndsTest");

    /** Of the pair 0 and this wheel it is the law of the same index that tells first. */
    private static final int[] PARTNER = {1, 2, 4, 8};
    /** How many wheels stand under the law of the index together with wheel 0. */
    private static final int[] TOGETHER = {2, 4, 8, 16};
    private static final int[] LAW_AT_FIRST = {10, 40, 80, 4000};

    public static void main(String[] args) {
        brokenAtEachLaw();
        brokenByTheFirstLawAlone();
        brokenByLawsOfNone();
        brokenByLawsOf4000();
        keptAtEachLaw();
        keptOfAllAlike();
        keptByLawsOfNone();
        keptByLawsOf4000();
        keptOfTheEndsOfSizes();
        keptByNarrowLawsOfMany();
        keptByWayOfFifteenWheels();
        steelAndEvenAgree();
        evenOfNoneOneAndAll();
        refusedLawsChangeNothing();
        CHECK.end();
    }

    private static WheelShop withLaws(int axle, int bogie, int car, int train) {
        WheelShop x = new WheelShop();
        x.law(0, axle);
        x.law(1, bogie);
        x.law(2, car);
        x.law(3, train);
        return x;
    }

    /** Two wheels as far apart as their law, and one farther, either of them the larger. */
    private static void brokenAtEachLaw() {
        for (int what = 0; what < 4; what++) {
            for (int v : new int[] {0, 1, 9, 500, 3198, 3199}) {
                for (int apart = v; apart <= v + 1; apart++) {
                    WheelShop x = withLaws(4000, 4000, 4000, 4000);
                    x.law(what, v);
                    for (int k = 0; k < 16; k++) {
                        x.size(k, 6000);
                    }
                    int under = TOGETHER[what] - (what == 0 ? 1 : TOGETHER[what - 1]);
                    x.size(0, 6000 + apart);
                    CHECK.due("11: law " + what + " of " + v + ", larger by " + apart, x.broken(), apart > v ? under : 0);
                    x = withLaws(4000, 4000, 4000, 4000);
                    x.law(what, v);
                    for (int k = 0; k < 16; k++) {
                        x.size(k, 9200);
                    }
                    x.size(0, 9200 - apart);
                    CHECK.due("11: law " + what + " of " + v + ", smaller by " + apart, x.broken(), apart > v ? under : 0);
                }
            }
        }
    }

    /** Every pair is under the law of what is least of all that both are on, and under no other. */
    private static void brokenByTheFirstLawAlone() {
        for (int what = 0; what < 4; what++) {
            int[] wide = {4000, 4000, 4000, 4000};
            wide[what] = 0;
            for (int a = 0; a < 16; a++) {
                for (int b = 0; b < 16; b++) {
                    WheelShop x = withLaws(wide[0], wide[1], wide[2], wide[3]);
                    x.size(a, 7000);
                    x.size(b, 7001);
                    CHECK.due("11: law " + what + ", wheels " + a + ", " + b, x.broken(), brokenOf(what, a, b));
                }
            }
        }
    }

    /** All are at 9000 but a and b, which differ: the pairs of each with the rest, and with each other. */
    private static int brokenOf(int what, int a, int b) {
        int pairs = 0;
        for (int c = 0; c < 16; c++) {
            if (c != a && c != b && firstLaw(a, c) == what) pairs++;
            if (c != a && c != b && a != b && firstLaw(b, c) == what) pairs++;
        }
        return a != b && firstLaw(a, b) == what ? pairs + 1 : pairs;
    }

    private static int firstLaw(int a, int b) {
        if (a / 2 == b / 2) return 0;
        if (a / 4 == b / 4) return 1;
        return a / 8 == b / 8 ? 2 : 3;
    }

    private static void brokenByLawsOfNone() {
        WheelShop x = withLaws(0, 0, 0, 0);
        CHECK.due("11: all alike", x.broken(), 0);
        x.size(15, 8999);
        CHECK.due("11: one is not", x.broken(), 15);
        x.size(14, 8999);
        CHECK.due("11: two are not", x.broken(), 28);
        for (int k = 0; k < 16; k++) {
            x.size(k, 6000 + 200 * k);
        }
        CHECK.due("11: none is as another", x.broken(), 120);
    }

    private static void brokenByLawsOf4000() {
        WheelShop x = withLaws(4000, 4000, 4000, 4000);
        for (int k = 0; k < 16; k++) {
            x.size(k, k % 2 == 0 ? 6000 : 9200);
        }
        CHECK.due("11: as far apart as can be", x.broken(), 0);
        CHECK.due("12: of the smallest", x.kept(0), 6000);
        CHECK.due("12: of the largest", x.kept(1), 9200);
        CHECK.due("13: nothing", x.steel(), 0);
        CHECK.due("14: none", x.even(), 0);
        x.law(0, 3200);
        CHECK.due("11: by 3200", x.broken(), 0);
        x.law(0, 3199);
        CHECK.due("11: by 3199, the axles", x.broken(), 8);
        CHECK.due("12: by 3199", x.kept(1), 9199);
        CHECK.due("13: by 3199", x.steel(), 8);
    }

    private static void keptAtEachLaw() {
        for (int what = 0; what < 4; what++) {
            for (int v : new int[] {0, 1, 3199, 3200, 4000}) {
                WheelShop x = withLaws(4000, 4000, 4000, 4000);
                x.law(what, v);
                x.size(0, 6000);
                x.size(PARTNER[what], 9200);
                CHECK.due("12: law " + what + " of " + v, x.kept(PARTNER[what]), Math.min(9200, 6000 + v));
                CHECK.due("12: of the smaller", x.kept(0), 6000);
                CHECK.due("12: asked, not done", x.about(PARTNER[what], 0), 9200);
            }
        }
        for (int what = 0; what < 3; what++) {
            WheelShop x = new WheelShop();
            x.size(0, 9000 - LAW_AT_FIRST[what]);
            CHECK.due("12: as far as the law at first", x.kept(PARTNER[what]), 9000);
            x.size(0, 8999 - LAW_AT_FIRST[what]);
            CHECK.due("12: one farther", x.kept(PARTNER[what]), 8999);
        }
    }

    private static void keptOfAllAlike() {
        for (int size : new int[] {6000, 9000, 9200}) {
            WheelShop x = withLaws(0, 0, 0, 0);
            for (int k = 0; k < 16; k++) {
                x.size(k, size);
            }
            for (int k = 0; k < 16; k++) {
                CHECK.due("12: all at " + size, x.kept(k), size);
            }
            CHECK.due("13: all at " + size, x.steel(), 0);
            CHECK.due("14: all at " + size, x.even(), 0);
        }
    }

    private static void keptByLawsOfNone() {
        for (int least = 0; least < 16; least++) {
            WheelShop x = withLaws(0, 0, 0, 0);
            for (int k = 0; k < 16; k++) {
                x.size(k, 9200 - k);
            }
            x.size(least, 6000);
            for (int k = 0; k < 16; k++) {
                CHECK.due("12: all as the least, " + least, x.kept(k), 6000);
            }
            CHECK.due("13: all as the least, " + least, x.steel(), 15 * 3200 - (120 - least));
            CHECK.due("14: all but the least, " + least, x.even(), 15);
            CHECK.due("11: then", x.broken(), 0);
        }
    }

    private static void keptByLawsOf4000() {
        WheelShop x = withLaws(4000, 4000, 4000, 4000);
        x.size(4, 6000);
        x.size(5, 9200);
        for (int k = 0; k < 16; k++) {
            CHECK.due("12: by laws of 4000", x.kept(k), k == 4 ? 6000 : k == 5 ? 9200 : 9000);
        }
    }

    /** The most steel that can be lost: fifteen wheels of 9200, one of 6000, no difference allowed. */
    private static void keptOfTheEndsOfSizes() {
        WheelShop x = withLaws(0, 0, 0, 0);
        for (int k = 0; k < 16; k++) {
            x.size(k, k == 7 ? 6000 : 9200);
        }
        CHECK.due("11: the ends of sizes", x.broken(), 15);
        CHECK.due("12: the ends of sizes", x.kept(8), 6000);
        CHECK.due("13: the most steel", x.steel(), 48000);
        CHECK.due("14: all but one", x.even(), 15);
        CHECK.due("13: then", x.steel(), 0);
        x.depth(7, 0, 1);
        CHECK.due("8: below 6000", x.turn(7, 0), -2);
    }

    /** Where a law of many is narrower than one of few, two of few are held together by way of others. */
    private static void keptByNarrowLawsOfMany() {
        WheelShop x = withLaws(4000, 4000, 4000, 0);
        x.size(3, 6000);
        CHECK.due("11: the other car's wheels alone", x.broken(), 8);
        CHECK.due("12: the axle, by way of the other car", x.kept(2), 6000);
        CHECK.due("12: the bogie, by way of the other car", x.kept(0), 6000);
        CHECK.due("12: the car, by way of the other car", x.kept(7), 6000);
        CHECK.due("12: the other car", x.kept(15), 6000);
        CHECK.due("13: all", x.steel(), 15 * 3000);
        x.law(3, 1);
        CHECK.due("12: by two ways of one", x.kept(2), 6002);
        CHECK.due("12: by one of one", x.kept(8), 6001);
        x.law(0, 1);
        CHECK.due("12: by the axle's", x.kept(2), 6001);
        CHECK.due("12: by two ways still", x.kept(1), 6002);
        x = withLaws(4000, 4000, 0, 4000);
        x.size(3, 6000);
        CHECK.due("12: the axle, by way of the other bogie", x.kept(2), 6000);
        CHECK.due("12: not the other car", x.kept(8), 9000);
        x = withLaws(4000, 0, 4000, 4000);
        x.size(3, 6000);
        CHECK.due("12: the axle, by way of the other axle", x.kept(2), 6000);
        CHECK.due("12: not the other bogie", x.kept(4), 9000);
    }

    /** Each wheel alone stands as high above the least one as the ways between them say. */
    private static void keptByWayOfFifteenWheels() {
        for (int least = 0; least < 16; least++) {
            WheelShop x = withLaws(1, 2, 4, 8);
            for (int k = 0; k < 16; k++) {
                x.size(k, 9200);
            }
            x.size(least, 6000);
            for (int k = 0; k < 16; k++) {
                int most = k == least ? 6000 : 6000 + (1 << firstLaw(k, least));
                CHECK.due("12: kept of " + k + " by " + least, x.kept(k), most);
            }
            CHECK.due("13: by " + least, x.steel(), 15 * 3200 - 1 - 2 * 2 - 4 * 4 - 8 * 8);
        }
    }

    /** What stands after even() is what kept() told before it; what steel() told is gone. */
    private static void steelAndEvenAgree() {
        for (int step = 1; step <= 200; step += 7) {
            WheelShop x = withLaws(step % 13, step % 29, step % 31, step % 61);
            int[] kept = new int[16];
            int before = 0;
            for (int k = 0; k < 16; k++) {
                int size = 6000 + step * (k * 7 % 16);
                x.size(k, size);
                before += size;
            }
            int less = 0;
            int after = 0;
            for (int k = 0; k < 16; k++) {
                kept[k] = x.kept(k);
                after += kept[k];
                less += kept[k] < x.about(k, 0) ? 1 : 0;
            }
            CHECK.due("13: steel, sizes " + step + " apart", x.steel(), before - after);
            CHECK.due("14: even, sizes " + step + " apart", x.even(), less);
            for (int k = 0; k < 16; k++) {
                CHECK.due("14: size then", x.about(k, 0), kept[k]);
            }
            CHECK.due("11: then", x.broken(), 0);
            CHECK.due("13: then", x.steel(), 0);
            CHECK.due("14: then", x.even(), 0);
        }
    }

    private static void evenOfNoneOneAndAll() {
        WheelShop x = new WheelShop();
        CHECK.due("14: none of new ones", x.even(), 0);
        x.size(0, 9010);
        CHECK.due("14: none, as far as the law", x.even(), 0);
        CHECK.due("14: it stays", x.about(0, 0), 9010);
        x.size(0, 9011);
        CHECK.due("14: one", x.even(), 1);
        CHECK.due("14: down by one", x.about(0, 0), 9010);
        x.law(3, 0);
        CHECK.due("14: that one again", x.even(), 1);
        x.size(5, 8999);
        x.law(2, 0);
        x.law(1, 0);
        x.law(0, 0);
        CHECK.due("14: all but one", x.even(), 15);
    }

    private static void refusedLawsChangeNothing() {
        WheelShop x = new WheelShop();
        x.size(0, 8989);
        for (int v : new int[] {-1, 4001, Integer.MIN_VALUE, Integer.MAX_VALUE}) {
            CHECK.due("10: law(0, " + v + ")", x.law(0, v), -1);
            CHECK.due("10: law(" + (v == 4001 ? 4 : v) + ", 0)", x.law(v == 4001 ? 4 : v, 0), -1);
            CHECK.due("11: the axle's law stays", x.broken(), 1);
            CHECK.due("12: the axle's law stays", x.kept(1), 8999);
        }
        CHECK.due("10: it stays", x.law(0, 11), 10);
        CHECK.due("11: none by the new one", x.broken(), 0);
    }
}
