/** None, one, as many as can be and one more: of spares, readings, passes and calls (promises 15 to 27). */
public final class ManyTest {
    private static final Check CHECK = new Check("ManyTest");
    private static final int BAD = -1;
    private static final int STATE = -2;
    private static final int FULL = -3;
    private static final int NONE = -9;
    private static final int NO = -1000000;

    public static void main(String[] args) {
        sparesFromNoneToFull();
        sparesSoldAndBoughtAgain();
        pairsAtTheLaw();
        pairsOfNoneOneAndEight();
        pairsByLawsOf0And4000();
        readingsFromNoneToFull();
        readingsOfAllKindsFull();
        offsetsOfNoReading();
        offsetsOfEveryDifference();
        offsetsOfReadingsWithoutHands();
        handsThatContradict();
        offsetsOfTheEndsOfSizes();
        offsetsAtBothEnds();
        fewestAtTheEnds();
        passesOfEveryPattern();
        passesAtTheBar();
        lastCalls();
        CHECK.end();
    }

    private static WheelShop withSpares(int... sizes) {
        WheelShop x = new WheelShop();
        for (int size : sizes) {
            x.spare(size);
        }
        return x;
    }

    private static void duePairs(String of, WheelShop x, int many, int sum) {
        CHECK.due("17: pairs of " + of, x.pairs(0), many);
        CHECK.due("17: sum of " + of, x.pairs(1), sum);
    }

    private static void sparesFromNoneToFull() {
        WheelShop x = new WheelShop();
        CHECK.due("16: none to sell", x.sell(), STATE);
        CHECK.due("26: none", x.count(0), 0);
        for (int n = 0; n < 8; n++) {
            CHECK.due("15: refused", x.spare(5999), BAD);
            CHECK.due("15: refused", x.spare(9201), BAD);
            CHECK.due("15: number " + n, x.spare(6000 + 400 * n), n);
            CHECK.due("26: so many", x.count(0), n + 1);
        }
        for (int again = 0; again < 3; again++) {
            CHECK.due("15: one more", x.spare(6000), FULL);
            CHECK.due("15: one more", x.spare(9200), FULL);
            CHECK.due("15: BAD before FULL", x.spare(5999), BAD);
            CHECK.due("15: BAD before FULL", x.spare(9201), BAD);
            CHECK.due("15: BAD before FULL", x.spare(Integer.MIN_VALUE), BAD);
            CHECK.due("15: BAD before FULL", x.spare(Integer.MAX_VALUE), BAD);
            CHECK.due("26: eight", x.count(0), 8);
        }
        duePairs("eight, as before the refused ones", x, 0, 0);
        for (int n = 7; n >= 0; n--) {
            CHECK.due("16: left", x.sell(), n);
            CHECK.due("26: left", x.count(0), n);
        }
        CHECK.due("16: none to sell", x.sell(), STATE);
        CHECK.due("16: none to sell, again", x.sell(), STATE);
        CHECK.due("15: the first again", x.spare(9200), 0);
    }

    private static void sparesSoldAndBoughtAgain() {
        WheelShop x = withSpares(7000, 7001, 7002, 7003, 7004, 7005, 7006, 7007);
        duePairs("eight", x, 4, 4);
        CHECK.due("16: the latest", x.sell(), 7);
        duePairs("seven", x, 3, 3);
        CHECK.due("15: in its place", x.spare(7017), 7);
        duePairs("eight with a far one", x, 3, 3);
        x.sell();
        x.spare(7016);
        duePairs("eight with one just near", x, 4, 13);
        x.sell();
        x.sell();
        duePairs("six", x, 3, 3);
        for (int n = 0; n < 3; n++) {
            CHECK.due("15: up to eight", x.spare(7005), n < 2 ? 6 + n : FULL);
        }
        duePairs("eight, three alike", x, 4, 3);
    }

    private static void pairsAtTheLaw() {
        for (int law : new int[] {0, 1, 10, 3199, 3200, 4000}) {
            for (int apart = Math.max(0, law - 1); apart <= Math.min(3200, law + 1); apart++) {
                WheelShop x = withSpares(6000 + apart, 6000);
                x.law(0, law);
                duePairs("two, " + apart + " apart by " + law, x, apart <= law ? 1 : 0, apart <= law ? apart : 0);
                x = withSpares(9200 - apart, 9200);
                x.law(0, law);
                duePairs("two, " + apart + " apart by " + law, x, apart <= law ? 1 : 0, apart <= law ? apart : 0);
            }
        }
        WheelShop x = withSpares(7000, 7011);
        x.law(1, 4000);
        x.law(2, 4000);
        duePairs("two, by no other law", x, 0, 0);
        x.law(1, 0);
        x.law(2, 0);
        x.law(3, 0);
        x.sell();
        x.spare(7010);
        duePairs("two, by no other law", x, 1, 10);
        x.size(0, 6000);
        duePairs("two: the wheels play no part", x, 1, 10);
    }

    private static void pairsOfNoneOneAndEight() {
        duePairs("none", withSpares(), 0, 0);
        duePairs("one of 6000", withSpares(6000), 0, 0);
        duePairs("one of 9200", withSpares(9200), 0, 0);
        int[] many = {0, 0, 1, 1, 2, 2, 3, 3, 4};
        WheelShop alike = new WheelShop();
        alike.law(0, 0);
        WheelShop chain = new WheelShop();
        for (int n = 1; n <= 8; n++) {
            alike.spare(9200);
            duePairs(n + " alike", alike, many[n], 0);
            chain.spare(7100 - 10 * n);
            duePairs(n + ", each ten from the next", chain, many[n], 10 * many[n]);
        }
        WheelShop x = withSpares(7000, 7011, 7022, 7033, 7044, 7055, 7066, 7077);
        duePairs("eight, each too far from the next", x, 0, 0);
        x.law(0, 11);
        duePairs("eight, each just near enough", x, 4, 44);
        // The nearest two taken first would leave fewer pairs, or a greater sum.
        duePairs("more pairs come before a lesser sum", withSpares(7000, 7010, 7011, 7021, 8000, 8010, 8010, 8020), 4, 40);
        duePairs("the least sum of as many", withSpares(7000, 7004, 7009, 7010, 7020, 7021, 7030), 3, 6);
    }

    private static void pairsByLawsOf0And4000() {
        WheelShop x = withSpares(6000, 9200, 6000, 9200, 6000, 9200, 6001, 9199);
        x.law(0, 4000);
        duePairs("the ends of sizes, by 4000", x, 4, 2);
        x.law(0, 0);
        duePairs("the ends of sizes, by 0", x, 2, 0);
        x = withSpares(6000, 9200);
        x.law(0, 3199);
        duePairs("6000 and 9200 by 3199", x, 0, 0);
        x.law(0, 3200);
        duePairs("6000 and 9200 by 3200", x, 1, 3200);
        CHECK.due("17: refused", x.pairs(2), BAD);
        CHECK.due("17: refused", x.pairs(-1), BAD);
    }

    private static void dueOffsets(String of, WheelShop x, int least, int greatest, int many, int fewest) {
        CHECK.due("20: least of " + of, x.offset(0), least);
        CHECK.due("20: greatest of " + of, x.offset(1), greatest);
        CHECK.due("20: how many of " + of, x.offset(2), many);
        CHECK.due("20: fewest of " + of, x.offset(3), fewest);
    }

    private static void readingsFromNoneToFull() {
        for (int by = 0; by < 2; by++) {
            WheelShop x = new WheelShop();
            CHECK.due("19: none to forget", x.forget(), STATE);
            CHECK.due("26: none", x.count(1), 0);
            for (int n = 1; n <= 20; n++) {
                CHECK.due("18: refused", x.read(16, by, 7000), BAD);
                CHECK.due("18: refused", x.read(3, 2, 7000), BAD);
                CHECK.due("18: refused", x.read(3, by, 4999), BAD);
                CHECK.due("18: refused", x.read(3, by, 10001), BAD);
                CHECK.due("18: reading " + n, x.read(3, by, 7000), n);
                CHECK.due("26: so many", x.count(1), n);
            }
            for (int again = 0; again < 3; again++) {
                CHECK.due("18: one more", x.read(3, 0, 9000), FULL);
                CHECK.due("18: one more", x.read(3, 1, 9000), FULL);
                CHECK.due("18: BAD before FULL", x.read(16, 0, 9000), BAD);
                CHECK.due("18: BAD before FULL", x.read(3, 2, 9000), BAD);
                CHECK.due("18: BAD before FULL", x.read(3, -1, 9000), BAD);
                CHECK.due("18: BAD before FULL", x.read(3, 0, 4999), BAD);
                CHECK.due("18: BAD before FULL", x.read(3, 1, Integer.MAX_VALUE), BAD);
            }
            dueOffsets("twenty alike, and refused ones", x, -200, 200, 401, 0);
            for (int n = 19; n >= 0; n--) {
                CHECK.due("19: left", x.forget(), n);
                CHECK.due("26: left", x.count(1), n);
            }
            CHECK.due("19: none to forget", x.forget(), STATE);
            CHECK.due("19: none to forget, again", x.forget(), STATE);
            CHECK.due("18: the first again", x.read(3, by, 5000), 1);
        }
    }

    /** Ten wheels with a hand and a reading each: the twentieth counts, and what comes after it doesn't. */
    private static void readingsOfAllKindsFull() {
        WheelShop x = new WheelShop();
        for (int k = 0; k < 10; k++) {
            x.read(k, 0, 7000 + k);
            x.read(k, 1, 7020 + k);
        }
        dueOffsets("ten wheels", x, 13, 27, 15, 0);
        x.forget();
        x.read(9, 1, 7033);
        dueOffsets("ten wheels, the last one farther", x, 17, 27, 11, 0);
        CHECK.due("18: one more", x.read(9, 1, 9999), FULL);
        dueOffsets("ten wheels, one more refused", x, 17, 27, 11, 0);
        x.forget();
        x.read(9, 1, 7044);
        dueOffsets("ten wheels, the last one alone", x, NO, NO, 0, 1);
        WheelShop all = new WheelShop();
        for (int k = 0; k < 16; k++) {
            all.read(k, 1, 5000 + 300 * k);
        }
        dueOffsets("each wheel by the reader", all, -200, 200, 401, 0);
        for (int k = 0; k < 4; k++) {
            all.read(4 * k, 0, 5000 + 1200 * k + k);
        }
        dueOffsets("four of them by hands", all, -7, 4, 12, 0);
        CHECK.due("18: full", all.read(0, 0, 9999), FULL);
        dueOffsets("four of them by hands, one more refused", all, -7, 4, 12, 0);
    }

    private static void offsetsOfNoReading() {
        WheelShop x = new WheelShop();
        dueOffsets("no reading", x, -200, 200, 401, 0);
        x.read(0, 0, 7000);
        x.read(0, 0, 7005);
        x.read(0, 1, 9000);
        dueOffsets("some", x, NO, NO, 0, NONE);
        x.forget();
        x.forget();
        x.forget();
        dueOffsets("no reading any more", x, -200, 200, 401, 0);
        CHECK.due("20: refused", x.offset(-1), NO + 1);
        CHECK.due("20: refused", x.offset(4), NO + 1);
    }

    /** A hand says 7000, the reader so much more: seven either way agree, within -200 .. 200. */
    private static void offsetsOfEveryDifference() {
        for (int more = -230; more <= 230; more++) {
            for (int k = 0; k < 16; k += 15) {
                WheelShop x = new WheelShop();
                x.read(k, more % 2 == 0 ? 0 : 1, more % 2 == 0 ? 7000 : 7000 + more);
                x.read(k, more % 2 == 0 ? 1 : 0, more % 2 == 0 ? 7000 + more : 7000);
                int least = Math.max(-200, more - 7);
                int greatest = Math.min(200, more + 7);
                if (least <= greatest) {
                    dueOffsets("the reader, " + more + " more", x, least, greatest, greatest - least + 1, 0);
                } else {
                    dueOffsets("the reader, " + more + " more", x, NO, NO, 0, 1);
                }
            }
        }
    }

    private static void offsetsOfReadingsWithoutHands() {
        for (int apart = 0; apart <= 13; apart++) {
            boolean agree = apart <= 10;
            WheelShop x = new WheelShop();
            x.read(8, 1, 5000);
            x.read(8, 1, 5000 + apart);
            dueOffsets("two of one wheel, " + apart + " apart", x, agree ? -200 : NO, agree ? 200 : NO, agree ? 401 : 0, agree ? 0 : 1);
            x = new WheelShop();
            x.read(8, 1, 10000);
            x.read(8, 1, 10000 - apart);
            x.read(9, 0, 5000);
            dueOffsets("the second the less, " + apart + " apart", x, agree ? -200 : NO, agree ? 200 : NO, agree ? 401 : 0, agree ? 0 : 1);
        }
        WheelShop x = new WheelShop();
        x.read(8, 1, 5000);
        x.read(9, 1, 10000);
        dueOffsets("two of two wheels", x, -200, 200, 401, 0);
    }

    private static void handsThatContradict() {
        for (int apart = 0; apart <= 7; apart++) {
            boolean agree = apart <= 4;
            WheelShop x = new WheelShop();
            x.read(15, 0, 7000 + apart);
            x.read(15, 0, 7000);
            dueOffsets("hands " + apart + " apart", x, agree ? -200 : NO, agree ? 200 : NO, agree ? 401 : 0, agree ? 0 : NONE);
            x.read(15, 1, 7002);
            // The size was 6998 + apart .. 7002.
            dueOffsets("hands " + apart + " apart, and the reader", x, agree ? -5 : NO, agree ? 9 - apart : NO, agree ? 15 - apart : 0, agree ? 0 : NONE);
        }
        WheelShop x = new WheelShop();
        x.read(0, 0, 5000);
        x.read(1, 0, 10000);
        dueOffsets("hands of two wheels don't contradict", x, -200, 200, 401, 0);
        x.read(2, 0, 7000);
        x.read(2, 0, 7002);
        x.read(2, 0, 7004);
        dueOffsets("three hands as far as can be", x, -200, 200, 401, 0);
        x.read(2, 0, 7005);
        dueOffsets("the first and the last contradict", x, NO, NO, 0, NONE);
        CHECK.due("20: refused, hands contradict", x.offset(4), NO + 1);
        CHECK.due("20: refused, hands contradict", x.offset(-1), NO + 1);
        x.read(3, 1, 7000);
        x.read(3, 1, 8000);
        dueOffsets("hands and the reader contradict", x, NO, NO, 0, NONE);
        x.forget();
        x.forget();
        x.forget();
        dueOffsets("it is forgotten", x, -200, 200, 401, 0);
        x = new WheelShop();
        for (int n = 0; n < 20; n++) {
            x.read(4, 0, 5000 + 263 * n);
        }
        dueOffsets("twenty hands", x, NO, NO, 0, NONE);
    }

    private static void offsetsOfTheEndsOfSizes() {
        WheelShop x = new WheelShop();
        x.read(0, 0, 5000);
        x.read(0, 1, 10000);
        dueOffsets("5000 by a hand, 10000 by the reader", x, NO, NO, 0, 1);
        x = new WheelShop();
        x.read(0, 0, 10000);
        x.read(0, 1, 5000);
        dueOffsets("10000 by a hand, 5000 by the reader", x, NO, NO, 0, 1);
        // What was once may have been a size that no wheel has now, such as 4998 or 10002.
        x = new WheelShop();
        x.read(0, 0, 5000);
        x.read(0, 1, 5000);
        x.read(1, 0, 10000);
        x.read(1, 1, 10000);
        dueOffsets("the ends of readings", x, -7, 7, 15, 0);
        x = new WheelShop();
        x.read(0, 1, 5000);
        x.read(1, 1, 10000);
        dueOffsets("the reader alone, at the ends", x, -200, 200, 401, 0);
        x = new WheelShop();
        x.read(0, 0, 5207);
        x.read(0, 1, 5000);
        x.read(1, 0, 9793);
        x.read(1, 1, 10000);
        dueOffsets("the least and the greatest offset", x, NO, NO, 0, 1);
    }

    private static void offsetsAtBothEnds() {
        WheelShop x = new WheelShop();
        x.read(0, 0, 7000);
        x.read(0, 1, 7200);
        dueOffsets("200 more", x, 193, 200, 8, 0);
        x.read(1, 0, 7000);
        x.read(1, 1, 7207);
        dueOffsets("200 alone", x, 200, 200, 1, 0);
        x.read(2, 0, 7000);
        x.read(2, 1, 7208);
        dueOffsets("beyond 200", x, NO, NO, 0, 1);
        x = new WheelShop();
        x.read(0, 0, 7000);
        x.read(0, 1, 6800);
        dueOffsets("200 less", x, -200, -193, 8, 0);
        x.read(1, 0, 7000);
        x.read(1, 1, 6793);
        dueOffsets("-200 alone", x, -200, -200, 1, 0);
        x.read(2, 0, 7000);
        x.read(2, 1, 6792);
        dueOffsets("beyond -200", x, NO, NO, 0, 1);
    }

    private static void fewestAtTheEnds() {
        WheelShop x = new WheelShop();
        x.read(0, 0, 7000);
        for (int n = 0; n < 19; n++) {
            x.read(0, 1, 9000 + n);
        }
        dueOffsets("nineteen out of reach", x, NO, NO, 0, 19);
        x = new WheelShop();
        for (int n = 0; n < 20; n++) {
            x.read(0, 1, 5000 + 263 * n);
        }
        dueOffsets("twenty, each by itself", x, NO, NO, 0, 19);
        x = new WheelShop();
        for (int n = 0; n < 20; n++) {
            x.read(0, 1, 5000 + 10 * n);
        }
        dueOffsets("twenty, two of them together", x, NO, NO, 0, 18);
        x = new WheelShop();
        for (int n = 0; n < 20; n++) {
            x.read(0, 1, n < 10 ? 5000 : 5011);
        }
        dueOffsets("ten and ten", x, NO, NO, 0, 10);
        // Ten wheels, each by a hand; the offsets 200 and -200 have three readings each, 0 has two.
        int[] more = {200, -200, 200, -200, 200, -200, 0, 0, 100, -100};
        x = new WheelShop();
        for (int k = 0; k < 10; k++) {
            x.read(k, 0, 7000 + k);
            x.read(k, 1, 7000 + k + more[k]);
        }
        dueOffsets("the ends have the most", x, NO, NO, 0, 7);
        // Just out of reach at the ends: 208 and -208 agree with no offset, so that 0 is the best.
        int[] beyond = {208, -208, 208, -208, 208, -208, 0, 0, 100, -100};
        x = new WheelShop();
        for (int k = 0; k < 10; k++) {
            x.read(k, 0, 7000 + k);
            x.read(k, 1, 7000 + k + beyond[k]);
        }
        dueOffsets("beyond the ends none counts", x, NO, NO, 0, 8);
    }

    /** Each way in which eight passes reach the bar or don't: three of the latest five tell. */
    private static void passesOfEveryPattern() {
        int[][] blows = {{499, 500}, {0, 999}, {0, 1}, {998, 999}};
        int[] bars = {500, 999, 1, 999};
        for (int round = 0; round < 4; round++) {
            for (int hits = 0; hits < 1 << 8; hits++) {
                WheelShop x = new WheelShop();
                x.bar(bars[round]);
                CHECK.due("23: none", x.flat(9), 0);
                for (int n = 0; n < 8; n++) {
                    int latest = hits & (1 << n + 1) - 1 & ~((1 << Math.max(0, n - 4)) - 1);
                    int due = Integer.bitCount(latest) >= 3 ? 1 : 0;
                    String of = "pass " + n + " of " + Integer.toBinaryString(hits) + " by " + bars[round];
                    CHECK.due("21: " + of, x.pass(9, blows[round][hits >> n & 1]), due);
                    CHECK.due("23: " + of, x.flat(9), due);
                    CHECK.due("26: " + of, x.count(2), due);
                }
            }
        }
    }

    private static void passesAtTheBar() {
        WheelShop x = new WheelShop();
        x.bar(0);
        for (int k = 0; k < 16; k++) {
            CHECK.due("23: no pass, a bar of 0", x.flat(k), 0);
        }
        CHECK.due("26: no pass, a bar of 0", x.count(2), 0);
        for (int k = 0; k < 16; k++) {
            for (int n = 1; n <= 6; n++) {
                CHECK.due("21: a blow of 0, a bar of 0", x.pass(k, 0), n >= 3 ? 1 : 0);
                CHECK.due("21: refused", x.pass(k, -1), BAD);
                CHECK.due("21: refused", x.pass(k, 1000), BAD);
            }
            CHECK.due("26: so many", x.count(2), k + 1);
        }
        CHECK.due("22: bar(1)", x.bar(1), 0);
        CHECK.due("26: none by a bar of 1", x.count(2), 0);
        CHECK.due("22: refused", x.bar(-1), BAD);
        CHECK.due("22: refused", x.bar(1000), BAD);
        CHECK.due("26: none still", x.count(2), 0);
        x.bar(999);
        x.pass(0, 998);
        x.pass(0, 998);
        x.pass(0, 998);
        CHECK.due("23: 998 by 999", x.flat(0), 0);
        x.pass(0, 999);
        x.pass(0, 999);
        CHECK.due("21: three of 999", x.pass(0, 999), 1);
        CHECK.due("26: one", x.count(2), 1);
        x.bar(998);
        x.pass(0, 0);
        x.pass(0, 0);
        CHECK.due("23: three and two of 0", x.flat(0), 1);
        x.pass(1, 999);
        x.pass(1, 998);
        CHECK.due("21: refused passes don't count", x.pass(1, 1000), BAD);
        CHECK.due("23: two alone", x.flat(1), 0);
        CHECK.due("21: the third", x.pass(1, 998), 1);
    }

    /** What is asked as the 512th call, after 511 of a kind. */
    private static void lastCalls() {
        lastTurnings();
        lastMiles();
        lastSpares();
        lastReadings();
        lastPasses();
        WheelShop x = new WheelShop();
        x.depth(15, 4, 99);
        for (int n = 0; n < 510; n++) {
            CHECK.due("7: cut " + n, x.cut(2, 15), 100);
        }
        CHECK.due("27: after 510 cuts", x.trace(), 510 * 111);
        x = new WheelShop();
        for (int n = 0; n < 511; n++) {
            x.cut(n % 2 == 0 ? 3 : 0, n % 2 == 0 ? 0 : 16);
        }
        CHECK.due("27: after 511 refused cuts", x.trace(), 0);
        x = new WheelShop();
        for (int n = 0; n < 510; n++) {
            x.size(n % 2 * 15, n % 2 == 0 ? 6000 + n : 9200 - n);
        }
        CHECK.due("5: the size before the last", x.about(0, 0), 6508);
        CHECK.due("5: the last size", x.about(15, 0), 8691);
        x = new WheelShop();
        x.law(3, 0);
        for (int n = 0; n < 255; n++) {
            CHECK.due("2: size", x.size(n % 16, 8999 - n), 9000 - n);
            CHECK.due("14: even", x.even(), 15);
        }
        CHECK.due("12: kept, at the last call", x.kept(15), 8745);
    }

    private static void lastTurnings() {
        WheelShop x = new WheelShop();
        for (int n = 0; n < 511; n++) {
            CHECK.due("8: turn " + n, x.turn(n % 16, n % 3), 9000);
        }
        CHECK.due("26: turnings", x.count(5), 511);
        x = new WheelShop();
        x.size(3, 6000);
        x.depth(3, 1, 1);
        for (int n = 0; n < 509; n++) {
            CHECK.due("8: refused turn " + n, x.turn(3, n % 3), STATE);
        }
        CHECK.due("26: no turnings", x.count(5), 0);
    }

    private static void lastMiles() {
        WheelShop x = new WheelShop();
        x.wear(0, 20);
        for (int n = 1; n <= 507; n++) {
            CHECK.due("9: miles " + n, x.miles(500), n < 2 ? 0 : 16);
        }
        CHECK.due("5: depth 0", x.about(0, 1), 99);
        CHECK.due("5: depth 1", x.about(0, 2), 99);
        CHECK.due("5: size", x.about(0, 0), 6000);
        CHECK.due("25: due, at the last call", x.due(0), 1000 - 253500);
        x = new WheelShop();
        for (int n = 0; n < 511; n++) {
            CHECK.due("9: refused", x.miles(n % 2 == 0 ? 0 : 501), BAD);
        }
        CHECK.due("9: the last call", x.miles(1), 0);
    }

    private static void lastSpares() {
        WheelShop x = new WheelShop();
        for (int n = 0; n < 511; n++) {
            CHECK.due("15: spare " + n, x.spare(6000 + n), n < 8 ? n : FULL);
        }
        CHECK.due("16: sell, at the last call", x.sell(), 7);
        x = new WheelShop();
        for (int n = 0; n < 255; n++) {
            CHECK.due("15: spare " + n, x.spare(9200 - n), 0);
            CHECK.due("16: sell " + n, x.sell(), 0);
        }
        CHECK.due("16: none", x.sell(), STATE);
        CHECK.due("15: spare, at the last call", x.spare(9200), 0);
    }

    private static void lastReadings() {
        WheelShop x = new WheelShop();
        for (int n = 1; n <= 511; n++) {
            CHECK.due("18: read " + n, x.read(n % 16, n % 2, 5000 + n), n <= 20 ? n : FULL);
        }
        CHECK.due("19: forget, at the last call", x.forget(), 19);
        x = new WheelShop();
        for (int n = 0; n < 254; n++) {
            CHECK.due("18: read " + n, x.read(0, n % 2, 5000 + 10 * n), 1);
            CHECK.due("19: forget " + n, x.forget(), 0);
        }
        CHECK.due("19: none", x.forget(), STATE);
        x.read(0, 0, 7000);
        x.read(0, 1, 7207);
        CHECK.due("20: least, at the last call", x.offset(0), 200);
    }

    private static void lastPasses() {
        WheelShop x = new WheelShop();
        for (int n = 0; n < 508; n++) {
            CHECK.due("21: pass " + n, x.pass(15, 999), n < 2 ? 0 : 1);
        }
        CHECK.due("21: one below the bar", x.pass(15, 0), 1);
        CHECK.due("21: two below the bar", x.pass(15, 0), 1);
        CHECK.due("21: three below the bar", x.pass(15, 0), 0);
        CHECK.due("23: flat, at the last call", x.flat(15), 0);
    }
}
