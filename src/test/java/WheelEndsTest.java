/** The ends that the document's numbers bring together, of cuts, turnings and miles (promises 6 to 9). */
public final class WheelEndsTest {
    private static final Check CHECK = new Check("WheelEndsTest");
    private static final int STATE = -2;

    public static void main(String[] args) {
        everyDepthOfFirstAndGreatest();
        thinningOfNone();
        thinningOfThirty();
        thinningAtFirst();
        firstDepthAsGreatestAloneOrWithOthers();
        evenCutOfOddAndEven();
        leastAndGreatestCuts();
        turningTakesTheLeastOneAndTheCut();
        turningEndsAtSixThousand();
        turningOfTheSmallestWheel();
        turningOfTheLargestWheel();
        turningByEachKindAtTheEdge();
        milesRoundedDown();
        milesEndAtDepth99();
        milesEndAtSize6000();
        milesUntilDue();
        roadBeyondAThousand();
        CHECK.end();
    }

    private static WheelShop withDepths(int... depths) {
        WheelShop x = new WheelShop();
        for (int i = 0; i < 5; i++) {
            x.depth(15, i, depths[i]);
        }
        return x;
    }

    private static void dueDepths(String when, WheelShop x, int... depths) {
        for (int i = 0; i < 5; i++) {
            CHECK.due(when + ": depth " + i, x.about(15, i + 1), depths[i]);
        }
    }

    private static void dueCuts(String of, WheelShop x, int full, int thin, int even) {
        CHECK.due("7: full cut, " + of, x.cut(0, 15), full);
        CHECK.due("7: thin cut, " + of, x.cut(1, 15), thin);
        CHECK.due("7: even cut, " + of, x.cut(2, 15), even);
    }

    /** Depth 0 as it is, one other, and the rest 0: every cut by every thinning. */
    private static void everyDepthOfFirstAndGreatest() {
        for (int thinning = 0; thinning <= 30; thinning++) {
            for (int first = 0; first <= 99; first++) {
                for (int other = Math.max(0, first - 1); other <= Math.min(99, first + 1); other++) {
                    WheelShop x = withDepths(first, 0, other, 0, 0);
                    x.thinning(thinning);
                    int full = Math.max(first, other);
                    int thin = first >= other ? Math.max(0, full - thinning) : full;
                    dueCuts(first + ", " + other + " by " + thinning, x, full, thin, thin % 2 == 0 ? thin : thin + 1);
                }
            }
        }
    }

    private static void thinningOfNone() {
        WheelShop x = withDepths(99, 0, 0, 0, 0);
        x.thinning(0);
        dueCuts("thinning 0", x, 99, 99, 100);
        x.depth(15, 0, 0);
        dueCuts("thinning 0, nothing to cut", x, 0, 0, 0);
    }

    private static void thinningOfThirty() {
        WheelShop x = withDepths(99, 0, 0, 0, 0);
        x.thinning(30);
        dueCuts("thinning 30", x, 99, 69, 70);
        x.depth(15, 0, 31);
        dueCuts("thinning 30 of 31", x, 31, 1, 2);
        x.depth(15, 0, 30);
        dueCuts("thinning 30 of 30", x, 30, 0, 0);
        x.depth(15, 0, 29);
        dueCuts("thinning 30 of 29", x, 29, 0, 0);
        x.depth(15, 0, 0);
        dueCuts("thinning 30 of none", x, 0, 0, 0);
        x.depth(15, 1, 1);
        dueCuts("thinning 30, depth 0 not the greatest", x, 1, 1, 2);
    }

    private static void thinningAtFirst() {
        dueCuts("thinning 6 of 5", withDepths(5, 0, 0, 0, 0), 5, 0, 0);
        dueCuts("thinning 6 of 6", withDepths(6, 0, 0, 0, 0), 6, 0, 0);
        dueCuts("thinning 6 of 7", withDepths(7, 0, 0, 0, 0), 7, 1, 2);
        dueCuts("thinning 6 of 8", withDepths(8, 0, 0, 0, 0), 8, 2, 2);
        WheelShop x = withDepths(7, 0, 0, 0, 0);
        x.thinning(31);
        x.thinning(-1);
        dueCuts("thinning 6 after refused ones", x, 7, 1, 2);
    }

    private static void firstDepthAsGreatestAloneOrWithOthers() {
        for (int with = 0; with < 16; with++) {
            int[] depths = {40, 9, 9, 9, 9};
            for (int i = 1; i < 5; i++) {
                depths[i] = (with >> (i - 1) & 1) == 1 ? 40 : 9;
            }
            boolean allAlike = with == 15;
            dueCuts("depth 0 with others " + with, withDepths(depths), allAlike ? 0 : 31, allAlike ? 0 : 25, allAlike ? 0 : 26);
            depths[0] = 39;
            int full = allAlike ? 1 : with == 0 ? 30 : 31;
            int thin = with == 0 ? 24 : full;
            dueCuts("depth 0 one less than others " + with, withDepths(depths), full, thin, thin + thin % 2);
        }
    }

    private static void evenCutOfOddAndEven() {
        for (int d = 0; d <= 99; d++) {
            dueCuts("depth 4 of " + d, withDepths(0, 0, 0, 0, d), d, d, d % 2 == 1 ? d + 1 : d);
        }
    }

    private static void leastAndGreatestCuts() {
        dueCuts("all 0", withDepths(0, 0, 0, 0, 0), 0, 0, 0);
        dueCuts("all 99", withDepths(99, 99, 99, 99, 99), 0, 0, 0);
        dueCuts("99 over 0", withDepths(0, 99, 0, 99, 0), 99, 99, 100);
        dueCuts("99 over 0, depth 0 with others", withDepths(99, 99, 0, 99, 99), 99, 93, 94);
        dueCuts("least at depth 0", withDepths(0, 99, 99, 99, 99), 99, 99, 100);
        for (int i = 0; i < 5; i++) {
            WheelShop x = withDepths(50, 50, 50, 50, 50);
            x.depth(15, i, 49);
            CHECK.due("7: least one at " + i, x.cut(0, 15), 1);
            x.depth(15, i, 51);
            CHECK.due("7: greatest one at " + i, x.cut(0, 15), 1);
        }
    }

    private static void turningTakesTheLeastOneAndTheCut() {
        WheelShop x = withDepths(99, 98, 97, 60, 50);
        CHECK.due("8: thin", x.turn(15, 1), 9000 - 2 * 43);
        dueDepths("8: thin: 93 less each", x, 6, 5, 4, 0, 0);
        x = withDepths(99, 98, 97, 60, 50);
        CHECK.due("8: even", x.turn(15, 2), 9000 - 2 * 44);
        dueDepths("8: even: 94 less each", x, 5, 4, 3, 0, 0);
        x = withDepths(99, 98, 97, 60, 50);
        CHECK.due("8: full", x.turn(15, 0), 9000 - 2 * 49);
        dueDepths("8: full: 99 less each", x, 0, 0, 0, 0, 0);
        x = withDepths(7, 7, 7, 7, 7);
        CHECK.due("8: no cut, all alike", x.turn(15, 2), 9000);
        dueDepths("8: the least one is taken by no cut too", x, 0, 0, 0, 0, 0);
        x = withDepths(9, 9, 9, 9, 4);
        CHECK.due("8: no cut, within the thinning", x.turn(15, 1), 9000);
        dueDepths("8: the least one is taken by no cut too", x, 5, 5, 5, 5, 0);
        x = withDepths(0, 99, 0, 0, 0);
        CHECK.due("8: the greatest cut", x.turn(15, 2), 8800);
        dueDepths("8: the greatest cut, 0 at least", x, 0, 0, 0, 0, 0);
        x = withDepths(37, 0, 36, 1, 8);
        x.thinning(30);
        CHECK.due("8: by a thinning of 30", x.turn(15, 1), 9000 - 14);
        dueDepths("8: by a thinning of 30", x, 30, 0, 29, 0, 1);
        CHECK.due("8: again", x.turn(15, 1), 9000 - 14);
        dueDepths("8: again", x, 30, 0, 29, 0, 1);
    }

    private static void turningEndsAtSixThousand() {
        for (int size = 6000; size <= 6012; size++) {
            WheelShop x = withDepths(0, 0, 5, 0, 0);
            x.size(15, size);
            CHECK.due("8: cut 5 off " + size, x.turn(15, 0), size < 6010 ? STATE : size - 10);
            CHECK.due("8: size then", x.about(15, 0), size < 6010 ? size : size - 10);
            CHECK.due("8: depth then", x.about(15, 3), size < 6010 ? 5 : 0);
            CHECK.due("8: turnings then", x.count(5), size < 6010 ? 0 : 1);
        }
    }

    private static void turningOfTheSmallestWheel() {
        WheelShop x = withDepths(0, 0, 0, 0, 0);
        x.size(15, 6000);
        for (int kind = 0; kind < 3; kind++) {
            CHECK.due("8: no cut off 6000", x.turn(15, kind), 6000);
        }
        x.depth(15, 0, 6);
        CHECK.due("8: full off 6000", x.turn(15, 0), STATE);
        CHECK.due("8: thin of none off 6000", x.turn(15, 1), 6000);
        dueDepths("8: turned by no cut", x, 6, 0, 0, 0, 0);
        CHECK.due("8: even of none off 6000", x.turn(15, 2), 6000);
        CHECK.due("8: turnings", x.count(5), 5);
        x.depth(15, 0, 7);
        for (int kind = 0; kind < 3; kind++) {
            CHECK.due("8: a cut off 6000", x.turn(15, kind), STATE);
        }
        x.thinning(7);
        CHECK.due("8: by a wider thinning", x.turn(15, 2), 6000);
        CHECK.due("8: turnings", x.count(5), 6);
    }

    private static void turningOfTheLargestWheel() {
        WheelShop x = withDepths(0, 0, 0, 0, 0);
        x.size(15, 9200);
        CHECK.due("8: no cut off 9200", x.turn(15, 0), 9200);
        x.depth(15, 1, 99);
        CHECK.due("8: the greatest cut off 9200", x.turn(15, 2), 9000);
    }

    /** A cut of 1 by FULL and THIN is one of 2 by EVEN; 99 is 100; and THIN may turn what FULL may not. */
    private static void turningByEachKindAtTheEdge() {
        dueTurnings("cut 1", 6001, 1, STATE, STATE, STATE);
        dueTurnings("cut 1", 6002, 1, 6000, 6000, STATE);
        dueTurnings("cut 1", 6003, 1, 6001, 6001, STATE);
        dueTurnings("cut 1", 6004, 1, 6002, 6002, 6000);
        dueTurnings("cut 99", 6197, 99, STATE, STATE, STATE);
        dueTurnings("cut 99", 6198, 99, 6000, 6000, STATE);
        dueTurnings("cut 99", 6199, 99, 6001, 6001, STATE);
        dueTurnings("cut 99", 6200, 99, 6002, 6002, 6000);
        WheelShop x = withDepths(20, 0, 0, 0, 0);
        x.size(15, 6028);
        CHECK.due("8: full, 20", x.turn(15, 0), STATE);
        CHECK.due("8: thin, 14", x.turn(15, 1), 6000);
    }

    private static void dueTurnings(String what, int size, int depth, int full, int thin, int even) {
        int[] due = {full, thin, even};
        for (int kind = 0; kind < 3; kind++) {
            WheelShop x = withDepths(0, 0, 0, depth, 0);
            x.size(15, size);
            x.miles(7);
            CHECK.due("8: " + what + " off " + size + " by " + kind, x.turn(15, kind), due[kind]);
            CHECK.due("8: road then", x.about(15, 7), due[kind] == STATE ? 7 : 0);
        }
    }

    /** Every wear by every number of miles: rounded down by 100, and half of that rounded down again. */
    private static void milesRoundedDown() {
        for (int wear = 0; wear <= 20; wear++) {
            for (int n = 1; n <= 500; n++) {
                WheelShop x = new WheelShop();
                x.wear(15, wear);
                x.miles(n);
                int more = wear * n / 100;
                String with = "wear " + wear + ", miles " + n;
                CHECK.due("9: size by " + with, x.about(15, 0), 9000 - more);
                int most = Math.min(99, more);
                dueDepths("9: " + with, x, more / 2, most, most, most, more / 2);
            }
        }
        WheelShop x = new WheelShop();
        x.wear(15, 1);
        x.miles(99);
        x.miles(99);
        CHECK.due("9: what is rounded away is gone", x.about(15, 0), 9000);
        x.miles(100);
        CHECK.due("9: 100 are one", x.about(15, 0), 8999);
        dueDepths("9: half of one is none", x, 0, 1, 1, 1, 0);
        x.miles(199);
        dueDepths("9: half of one is none, again", x, 0, 2, 2, 2, 0);
        x.miles(200);
        dueDepths("9: half of two is one", x, 1, 4, 4, 4, 1);
    }

    private static void milesEndAtDepth99() {
        WheelShop x = withDepths(98, 97, 98, 99, 99);
        x.wear(15, 2);
        x.miles(100);
        dueDepths("9: as far as 99, and no farther", x, 99, 99, 99, 99, 99);
        CHECK.due("9: the size goes on", x.about(15, 0), 8998);
        x.miles(100);
        dueDepths("9: 99 stays", x, 99, 99, 99, 99, 99);
        CHECK.due("9: the size goes on", x.about(15, 0), 8996);
        x = withDepths(48, 0, 0, 0, 49);
        x.wear(15, 20);
        x.miles(500);
        dueDepths("9: the most at once", x, 98, 99, 99, 99, 99);
        CHECK.due("9: the most at once", x.about(15, 0), 8900);
        x.miles(500);
        dueDepths("9: all at 99", x, 99, 99, 99, 99, 99);
        CHECK.due("7: nothing to cut", x.cut(0, 15), 0);
        CHECK.due("8: nothing to cut", x.turn(15, 0), 8800);
        dueDepths("8: from 99", x, 0, 0, 0, 0, 0);
    }

    private static void milesEndAtSize6000() {
        for (int size = 6000; size <= 6102; size++) {
            WheelShop x = new WheelShop();
            x.size(15, size);
            x.wear(15, 20);
            x.miles(500);
            CHECK.due("9: 100 less than " + size, x.about(15, 0), size < 6100 ? 6000 : size - 100);
            dueDepths("9: depths of " + size, x, 50, 99, 99, 99, 50);
            CHECK.due("9: road of " + size, x.about(15, 7), 500);
        }
    }

    private static void milesUntilDue() {
        WheelShop x = new WheelShop();
        CHECK.due("9: 500", x.miles(500), 0);
        CHECK.due("9: 999", x.miles(499), 0);
        CHECK.due("25: one left", x.due(0), 1);
        CHECK.due("9: 1000", x.miles(1), 16);
        CHECK.due("25: none left", x.due(0), 0);
        CHECK.due("9: 1001", x.miles(1), 16);
        CHECK.due("25: one too many", x.due(0), -1);
        for (int k = 0; k < 16; k++) {
            CHECK.due("24: look", x.look(k), -1 - k);
            CHECK.due("9: all but those looked at", x.miles(1), 15 - k);
        }
        x = new WheelShop();
        x.miles(500);
        x.turn(2, 0);
        x.miles(500);
        CHECK.due("9: less the turned one", x.miles(499), 15);
        CHECK.due("9: the turned one too", x.miles(1), 16);
    }

    private static void roadBeyondAThousand() {
        WheelShop x = new WheelShop();
        for (int n = 1; n <= 500; n++) {
            CHECK.due("9: due after " + 500 * n, x.miles(500), n < 2 ? 0 : 16);
        }
        CHECK.due("5: road", x.about(15, 7), 250000);
        CHECK.due("25: due", x.due(15), 1000 - 250000);
        CHECK.due("24: look", x.look(15), 1000 - 250000);
        CHECK.due("24: look again", x.look(15), 1000);
        CHECK.due("5: road of the looked at", x.about(15, 7), 0);
        CHECK.due("8: turn", x.turn(14, 0), 9000);
        CHECK.due("5: road of the turned", x.about(14, 7), 0);
        CHECK.due("9: due but for these", x.miles(500), 14);
        CHECK.due("25: due of another", x.due(13), 1000 - 250500);
    }
}
