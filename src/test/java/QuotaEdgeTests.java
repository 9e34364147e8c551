// The boundary cases of the promises 20 to 24, other quotas and what is told: a test for each.
public final class QuotaEdgeTests extends Twins {
    private static final int[] NO_QUOTAS = {0, -1, 501, 502, -500, 512, 1024, 65537, -65535, 1 << 30, Integer.MAX_VALUE,
        Integer.MIN_VALUE, Integer.MIN_VALUE + 5};
    private static final int[] NO_WHATS = {-1, 13, 14, 256, 257, 65536, 1 << 30, Integer.MAX_VALUE, Integer.MIN_VALUE,
        Integer.MIN_VALUE + 1};

    private static SwingWeights four() {
        return council(6, 4, 3, 2, 1);
    }

    private static void dueOfQuota(SwingWeights x, int quota, int... wants) {
        for (int what = 0; what < wants.length; what++) {
            due("withQuota(" + quota + ", " + what + ")", x.withQuota(quota, what), wants[what]);
        }
    }

    private static void withQuota() {
        heading("Promise 20");
        sentence("Tells what would be with another quota", QuotaEdgeTests::tellsOtherQuota);
        sentence("quota: 1", () -> dueOfQuota(four(), 1, 0, 0, 4, 15));
        sentence("quota: .. to 500", QuotaEdgeTests::quotaOfFiveHundred);
        sentence("0 for the blocs that are dummies", QuotaEdgeTests::dummiesWithQuota);
        sentence("1 for the blocs that are blockers", QuotaEdgeTests::blockersWithQuota);
        sentence("2 for the swings of all blocs", QuotaEdgeTests::swingsWithQuota);
        sentence("3 for the coalitions that win", QuotaEdgeTests::winningWithQuota);
        sentence("BAD_VALUE (quota)", QuotaEdgeTests::badQuota);
        sentence("BAD_VALUE (what)", QuotaEdgeTests::badWhatOfQuota);
    }

    private static void tellsOtherQuota() {
        SwingWeights x = four();
        dueOfQuota(x, 10, 0, 4, 4, 1);
        dueOfCount(x, 2, 6);
        dueOfCount(x, 4, 7);
        dueOfCount(x, 11, 4);
        dueOfQuota(x, 6, 0, 0, 12, 7);
        x.setQuota(10);
        dueOfQuota(x, 6, 0, 0, 12, 7);
        x.setWeight(3, 0);
        dueOfQuota(x, 6, 1, 1, 10, 6);
    }

    private static void quotaOfFiveHundred() {
        dueOfQuota(four(), 500, 4, 0, 0, 0);
        dueOfQuota(tenOf(50, 1), 500, 0, 10, 10, 1);
        dueOfQuota(new SwingWeights(), 500, 0, 0, 0, 0);
    }

    private static void dummiesWithQuota() {
        SwingWeights x = four();
        due("withQuota(2, 0)", x.withQuota(2, 0), 1);
        due("withQuota(9, 0)", x.withQuota(9, 0), 1);
        due("withQuota(10, 0)", x.withQuota(10, 0), 0);
        due("withQuota(11, 0)", x.withQuota(11, 0), 4);
        bloc(x, 0, 1, 2);
        due("withQuota(9, 0) of two blocs", x.withQuota(9, 0), 1);
        due("withQuota(11, 0) of two blocs", x.withQuota(11, 0), 2);
        due("withQuota(1, 0) without members", new SwingWeights().withQuota(1, 0), 0);
    }

    private static void blockersWithQuota() {
        SwingWeights x = four();
        due("withQuota(6, 1)", x.withQuota(6, 1), 0);
        due("withQuota(7, 1)", x.withQuota(7, 1), 1);
        due("withQuota(10, 1)", x.withQuota(10, 1), 4);
        due("withQuota(11, 1)", x.withQuota(11, 1), 0);
        x.setVeto(3, true);
        due("withQuota(1, 1) with a veto", x.withQuota(1, 1), 1);
        bloc(x, 0, 1, 2);
        due("withQuota(10, 1) of two blocs", x.withQuota(10, 1), 2);
    }

    private static void swingsWithQuota() {
        due("withQuota(5, 2) of ten", tenOf(1, 1).withQuota(5, 2), 1260);
        due("withQuota(10, 2) of ten", tenOf(1, 1).withQuota(10, 2), 10);
        due("withQuota(11, 2) of ten", tenOf(1, 1).withQuota(11, 2), 0);
        SwingWeights x = four();
        bloc(x, 0, 1, 2);
        due("withQuota(10, 2) of two blocs", x.withQuota(10, 2), 2);
        due("withQuota(9, 2) of two blocs", x.withQuota(9, 2), 2);
        due("withQuota(1, 2) of two blocs", x.withQuota(1, 2), 2);
    }

    private static void winningWithQuota() {
        due("withQuota(1, 3) of ten", tenOf(1, 9).withQuota(1, 3), 1023);
        due("withQuota(10, 3) of ten", tenOf(1, 9).withQuota(10, 3), 1);
        due("withQuota(11, 3) of ten", tenOf(1, 9).withQuota(11, 3), 0);
        SwingWeights x = four();
        x.setVeto(3, true);
        due("withQuota(1, 3) with a veto", x.withQuota(1, 3), 8);
        bloc(x, 0, 1, 2);
        due("withQuota(1, 3) of two blocs", x.withQuota(1, 3), 2);
    }

    private static void badQuota() {
        for (int quota : NO_QUOTAS) {
            due("withQuota(" + quota + ", 0)", four().withQuota(quota, 0), BAD_VALUE);
            due("withQuota(" + quota + ", 3)", new SwingWeights().withQuota(quota, 3), BAD_VALUE);
        }
    }

    private static void badWhatOfQuota() {
        due("withQuota(1, 4)", four().withQuota(1, 4), BAD_VALUE);
        for (int what : NO_WHATS) {
            due("withQuota(6, " + what + ")", four().withQuota(6, what), BAD_VALUE);
            due("withQuota(500, " + what + ")", new SwingWeights().withQuota(500, what), BAD_VALUE);
        }
    }

    private static void leavesOut() {
        heading("Promise 21");
        sentence("from: 1", () -> due("leavesOut(3, 1)", four().leavesOut(3, 1), 2));
        sentence("from: .. to 500", () -> due("leavesOut(3, 500)", four().leavesOut(3, 500), NONE));
        sentence("Returns the least quota", QuotaEdgeTests::leastQuota);
        sentence("from this one", QuotaEdgeTests::fromThisOne);
        sentence("up to the sum of all weights", QuotaEdgeTests::upToTheSum);
        sentence("with which the member's bloc would be a dummy", QuotaEdgeTests::dummyThen);
        sentence("UNKNOWN", QuotaEdgeTests::leavesOutNoUnknown);
        sentence("BAD_VALUE", QuotaEdgeTests::leavesOutFromBad);
        sentence("NONE if there is none", QuotaEdgeTests::leavesOutNever);
    }

    private static void leastQuota() {
        due("leavesOut(3, 1)", four().leavesOut(3, 1), 2);
        due("leavesOut(3, 3)", four().leavesOut(3, 3), 9);
        SwingWeights x = council(1, 5, 0);
        due("leavesOut(1, 1)", x.leavesOut(1, 1), 1);
        due("leavesOut(1, 4)", x.leavesOut(1, 4), 4);
    }

    private static void fromThisOne() {
        due("leavesOut(3, 2)", four().leavesOut(3, 2), 2);
        due("leavesOut(3, 9)", four().leavesOut(3, 9), 9);
        due("leavesOut(3, 10)", four().leavesOut(3, 10), NONE);
    }

    private static void upToTheSum() {
        SwingWeights x = council(1, 5, 0);
        due("leavesOut(1, 5), the sum", x.leavesOut(1, 5), 5);
        due("leavesOut(1, 6), above the sum", x.leavesOut(1, 6), NONE);
        SwingWeights nine = council(1, 50, 50, 50, 50, 50, 50, 50, 50, 50, 0);
        due("leavesOut(9, 450)", nine.leavesOut(9, 450), 450);
        due("leavesOut(9, 451)", nine.leavesOut(9, 451), NONE);
        due("leavesOut(9, 500)", nine.leavesOut(9, 500), NONE);
        due("leavesOut(9, 500) of 500", tenOf(50, 1).leavesOut(9, 500), NONE);
        due("leavesOut(9, 451) of 500", tenOf(50, 1).leavesOut(9, 451), NONE);
        due("leavesOut(0, 1), no weights", council(1, 0, 0).leavesOut(0, 1), NONE);
    }

    private static void dummyThen() {
        SwingWeights x = council(1, 3, 2);
        due("leavesOut(1, 1)", x.leavesOut(1, 1), 3);
        x.setVeto(0, true);
        due("leavesOut(1, 1), with a veto of the other one", x.leavesOut(1, 1), 1);
        x.setVeto(1, true);
        due("leavesOut(1, 1), with a veto of its own", x.leavesOut(1, 1), NONE);
        SwingWeights blocs = four();
        bloc(blocs, 2, 3);
        due("leavesOut(2, 1) of a bloc", blocs.leavesOut(2, 1), NONE);
        due("leavesOut(3, 1) of a bloc", blocs.leavesOut(3, 1), NONE);
        bloc(blocs, 2, 1);
        due("leavesOut(0, 1)", blocs.leavesOut(0, 1), 5);
        dueOfCount(blocs, 2, 6);
    }

    private static void leavesOutNoUnknown() {
        SwingWeights x = four();
        SwingWeights ten = tenOf(1, 1);
        due("leavesOut(4, 1)", x.leavesOut(4, 1), UNKNOWN);
        for (int m : NO_MEMBERS) {
            due("leavesOut(" + m + ", 1)", x.leavesOut(m, 1), UNKNOWN);
            due("leavesOut(" + m + ", 500) of ten", ten.leavesOut(m, 500), UNKNOWN);
            due("leavesOut(" + m + ", 0) of ten", ten.leavesOut(m, 0), UNKNOWN);
        }
        due("leavesOut(0, 1) without members", new SwingWeights().leavesOut(0, 1), UNKNOWN);
    }

    private static void leavesOutFromBad() {
        SwingWeights x = four();
        for (int from : NO_QUOTAS) {
            due("leavesOut(3, " + from + ")", x.leavesOut(3, from), BAD_VALUE);
            due("leavesOut(0, " + from + ")", x.leavesOut(0, from), BAD_VALUE);
        }
    }

    private static void leavesOutNever() {
        due("leavesOut(0, 1)", four().leavesOut(0, 1), NONE);
        due("leavesOut(0, 1) of one", council(1, 50).leavesOut(0, 1), NONE);
        due("leavesOut(0, 51) of one", council(1, 50).leavesOut(0, 51), NONE);
    }

    private static void fairest() {
        heading("Promise 22");
        sentence("the quota, from 1", QuotaEdgeTests::fairestFromOne);
        sentence("to the sum of all weights", QuotaEdgeTests::fairestToTheSum);
        sentence("for which the sum of how far the shares are apart is least", QuotaEdgeTests::fairestOfAll);
        sentence("over all blocs", QuotaEdgeTests::fairestOverBlocs);
        sentence("of several the lowest one", QuotaEdgeTests::fairestOfSeveral);
        sentence("NONE if the sum of all weights is 0", QuotaEdgeTests::fairestOfNothing);
    }

    private static void fairestFromOne() {
        due("fairest() of 1", council(500, 1).fairest(), 1);
        due("fairest() of 1, 1", council(500, 1, 1).fairest(), 1);
        due("fairest() of 50", council(500, 50).fairest(), 1);
        due("fairest() of ten", tenOf(50, 500).fairest(), 1);
    }

    // With the veto of 0, which has no weight, only the sum leaves it no more swings than the other ones.
    private static void fairestToTheSum() {
        SwingWeights x = council(1, 0, 1, 1);
        x.setVeto(0, true);
        due("fairest() at the sum", x.fairest(), 2);
        SwingWeights ten = tenOf(50, 1);
        ten.setWeight(0, 0);
        ten.setVeto(0, true);
        due("fairest() at the sum of ten", ten.fairest(), 401);
    }

    private static void fairestOfAll() {
        due("fairest() of 3, 1, 1", council(1, 3, 1, 1).fairest(), 2);
        due("fairest() of 4, 3, 2, 1", four().fairest(), 5);
        SwingWeights x = four();
        x.setQuota(500);
        due("fairest() of the same", x.fairest(), 5);
        dueOfCount(x, 2, 500);
        x.setVeto(0, true);
        due("fairest() with a veto", x.fairest(), 7);
    }

    private static void fairestOverBlocs() {
        SwingWeights x = four();
        bloc(x, 0, 1);
        due("fairest() of 7, 2, 1", x.fairest(), 3);
        bloc(x, 0, 2, 3);
        due("fairest() of one bloc", x.fairest(), 1);
        SwingWeights three = council(1, 2, 2, 1, 1);
        bloc(three, 0, 3);
        due("fairest() of 3, 2, 1, with a bloc of two members", three.fairest(), 3);
    }

    private static void fairestOfSeveral() {
        due("fairest() of 3, 1", council(4, 3, 1).fairest(), 1);
        due("fairest() of 1, 1, 1", council(3, 1, 1, 1).fairest(), 1);
        due("fairest() of 3, 1, 1, where 4 is as fair as 2", council(4, 3, 1, 1).fairest(), 2);
    }

    private static void fairestOfNothing() {
        due("fairest() without members", new SwingWeights().fairest(), NONE);
        due("fairest() of 0", council(1, 0).fairest(), NONE);
        SwingWeights x = tenOf(0, 1);
        x.setVeto(0, true);
        due("fairest() of ten without weight", x.fairest(), NONE);
        x.setWeight(9, 1);
        due("fairest() of the weight 1", x.fairest(), 1);
    }

    private static void ballot() {
        heading("Promise 23");
        sentence("back: 0 for the latest one, 1 for the one before", QuotaEdgeTests::ballotsBack);
        sentence("0 for whether it passed (1, otherwise 0)", QuotaEdgeTests::passed);
        sentence("1 for the weight of the blocs that voted \"+\" together", QuotaEdgeTests::weightOfPlus);
        sentence("2 for how many members had another sign than their leader", QuotaEdgeTests::otherSigns);
        sentence("BAD_VALUE (back is negative", QuotaEdgeTests::negativeBack);
        sentence("or what)", QuotaEdgeTests::badWhatOfBallot);
        sentence("NONE if there is none", QuotaEdgeTests::noBallot);
    }

    private static void ballotsBack() {
        SwingWeights x = council(3, 1, 2, 4);
        vote(x, "---,+--,-+-,++-,--+,+-+,-++,+++");
        for (int back = 0; back <= 7; back++) {
            dueOfBallot(x, back, back < 5 ? 1 : 0, 7 - back, 0);
        }
        vote(x, "+00");
        dueOfBallot(x, 0, 0, 1, 0);
        dueOfBallot(x, 1, 1, 7, 0);
        dueOfBallot(x, 7, 0, 1, 0);
        x.undo();
        dueOfBallot(x, 0, 1, 7, 0);
        dueOfBallot(x, 7, 0, 0, 0);
    }

    private static void passed() {
        SwingWeights x = council(3, 2, 1);
        vote(x, "++");
        due("ballot(0, 0)", x.ballot(0, 0), 1);
        x.setVeto(1, true);
        x.setQuota(2);
        vote(x, "+0");
        due("ballot(0, 0)", x.ballot(0, 0), 0);
        due("ballot(1, 0), of another time", x.ballot(1, 0), 1);
    }

    private static void weightOfPlus() {
        SwingWeights x = tenOf(50, 1);
        vote(x, "----------,++++++++++");
        due("ballot(1, 1)", x.ballot(1, 1), 0);
        due("ballot(0, 1)", x.ballot(0, 1), 500);
        bloc(x, 0, 9);
        vote(x, "+---------,---------+");
        due("ballot(1, 1), with the member that said -", x.ballot(1, 1), 100);
        due("ballot(0, 1), without the member that said +", x.ballot(0, 1), 0);
        x.setWeight(0, 0);
        due("ballot(1, 1), of that time", x.ballot(1, 1), 100);
    }

    private static void otherSigns() {
        SwingWeights x = tenOf(1, 1);
        vote(x, "+-0+-0+-0+");
        due("ballot(0, 2), all alone", x.ballot(0, 2), 0);
        bloc(x, 0, 1, 2, 3, 4, 5, 6, 7, 8, 9);
        vote(x, "0---------,-000000000,+++++++++-,++++++++++");
        due("ballot(3, 2)", x.ballot(3, 2), 9);
        due("ballot(2, 2)", x.ballot(2, 2), 9);
        due("ballot(1, 2)", x.ballot(1, 2), 1);
        due("ballot(0, 2)", x.ballot(0, 2), 0);
        x.setWeight(9, 2);
        vote(x, "+++++++++-");
        due("ballot(0, 2), with another leader", x.ballot(0, 2), 9);
        due("ballot(1, 2), of that time", x.ballot(1, 2), 0);
    }

    private static void negativeBack() {
        SwingWeights x = council(1, 1);
        vote(x, "+,+");
        for (int back : new int[] {-1, -2, -8, -256, -65536, Integer.MIN_VALUE, Integer.MIN_VALUE + 1}) {
            due("ballot(" + back + ", 0)", x.ballot(back, 0), BAD_VALUE);
            due("ballot(" + back + ", 0) of none", council(1, 1).ballot(back, 0), BAD_VALUE);
        }
    }

    private static void badWhatOfBallot() {
        SwingWeights x = council(1, 1);
        vote(x, "+,+");
        due("ballot(0, 3)", x.ballot(0, 3), BAD_VALUE);
        due("ballot(2, 3) of two", x.ballot(2, 3), BAD_VALUE);
        for (int what : NO_WHATS) {
            due("ballot(1, " + what + ")", x.ballot(1, what), BAD_VALUE);
            due("ballot(0, " + what + ") of none", council(1, 1).ballot(0, what), BAD_VALUE);
        }
    }

    private static void noBallot() {
        SwingWeights x = council(1, 1);
        due("ballot(0, 0) of none", x.ballot(0, 0), NONE);
        vote(x, "+");
        due("ballot(0, 0) of one", x.ballot(0, 0), 1);
        for (int back = 1; back <= 9; back++) {
            due("ballot(" + back + ", 0) of one", x.ballot(back, 0), NONE);
            due("ballot(" + back + ", 1) of one", x.ballot(back, 1), NONE);
            due("ballot(" + back + ", 2) of one", x.ballot(back, 2), NONE);
        }
        vote(x, "+,+,+,+,+,+,+,+,+");
        due("ballot(7, 2) of ten", x.ballot(7, 2), 0);
        for (int back : new int[] {8, 9, 10, 256, 65536, 1 << 30, Integer.MAX_VALUE}) {
            due("ballot(" + back + ", 0) of ten", x.ballot(back, 0), NONE);
        }
    }

    private static void count() {
        heading("Promise 24");
        sentence("0 for members", QuotaEdgeTests::members);
        sentence("1 for blocs", QuotaEdgeTests::blocs);
        sentence("2 for the quota", QuotaEdgeTests::quota);
        sentence("3 for the sum of all weights", QuotaEdgeTests::sumOfWeights);
        sentence("4 for coalitions that win", QuotaEdgeTests::winningCoalitions);
        sentence("5 for least coalitions", QuotaEdgeTests::leastCoalitions);
        sentence("6 for the swings of all blocs", QuotaEdgeTests::swingsOfAll);
        sentence("7 for blocs that are dummies", QuotaEdgeTests::dummies);
        sentence("8 for members with a veto", QuotaEdgeTests::membersWithVeto);
        sentence("9 for ballots so far", QuotaEdgeTests::ballotsSoFar);
        sentence("10 for those that passed", QuotaEdgeTests::ballotsThatPassed);
        sentence("11 for the states in the history", QuotaEdgeTests::statesInHistory);
        sentence("12 for the length of the text", QuotaEdgeTests::lengthOfText);
        sentence("BAD_VALUE", QuotaEdgeTests::badWhatOfCount);
    }

    private static void members() {
        dueOfCount(new SwingWeights(), 0, 0);
        dueOfCount(tenOf(0, 1), 0, 10);
    }

    private static void blocs() {
        dueOfCount(new SwingWeights(), 1, 0);
        SwingWeights x = tenOf(0, 1);
        dueOfCount(x, 1, 10);
        bloc(x, 9, 8, 7, 6, 5, 4, 3, 2, 1, 0);
        dueOfCount(x, 1, 1);
        x.leave(0);
        dueOfCount(x, 1, 2);
        x.removeMember(0);
        dueOfCount(x, 1, 1);
    }

    private static void quota() {
        SwingWeights x = new SwingWeights();
        dueOfCount(x, 2, 1);
        x.setQuota(500);
        dueOfCount(x, 2, 500);
    }

    private static void sumOfWeights() {
        dueOfCount(new SwingWeights(), 3, 0);
        dueOfCount(council(1, 0, 0), 3, 0);
        SwingWeights x = tenOf(50, 1);
        dueOfCount(x, 3, 500);
        bloc(x, 0, 1);
        dueOfCount(x, 3, 500);
    }

    private static void winningCoalitions() {
        dueOfCount(new SwingWeights(), 4, 0);
        dueOfCount(council(2, 1), 4, 0);
        dueOfCount(council(1, 1), 4, 1);
        dueOfCount(tenOf(1, 1), 4, 1023);
        dueOfCount(tenOf(1, 10), 4, 1);
    }

    private static void leastCoalitions() {
        dueOfCount(new SwingWeights(), 5, 0);
        dueOfCount(council(2, 1), 5, 0);
        dueOfCount(tenOf(1, 1), 5, 10);
        dueOfCount(tenOf(1, 5), 5, 252);
        dueOfCount(tenOf(1, 10), 5, 1);
    }

    // With the first five as a bloc: it has 31 swings, and each of the other five has one, the other four without it.
    private static void swingsOfAll() {
        dueOfCount(new SwingWeights(), 6, 0);
        dueOfCount(council(2, 1), 6, 0);
        dueOfCount(tenOf(1, 5), 6, 1260);
        SwingWeights x = tenOf(1, 5);
        bloc(x, 0, 1, 2, 3, 4);
        dueOfCount(x, 6, 36);
    }

    private static void dummies() {
        dueOfCount(new SwingWeights(), 7, 0);
        dueOfCount(tenOf(1, 10), 7, 0);
        dueOfCount(tenOf(1, 11), 7, 10);
        SwingWeights x = tenOf(1, 5);
        bloc(x, 0, 1, 2, 3, 4, 5);
        dueOfCount(x, 7, 4);
    }

    private static void membersWithVeto() {
        SwingWeights x = tenOf(1, 1);
        dueOfCount(x, 8, 0);
        bloc(x, 0, 1);
        for (int m = 0; m < 10; m++) {
            x.setVeto(m, true);
            dueOfCount(x, 8, m + 1);
        }
        x.removeMember(9);
        dueOfCount(x, 8, 9);
    }

    private static void ballotsSoFar() {
        SwingWeights x = council(1, 1);
        dueOfCount(x, 9, 0);
        vote(x, "-,-,-,-,-,-,-,-");
        dueOfCount(x, 9, 8);
        vote(x, "-");
        dueOfCount(x, 9, 9);
        x.undo();
        dueOfCount(x, 9, 8);
        x.removeMember(0);
        dueOfCount(x, 9, 8);
    }

    private static void ballotsThatPassed() {
        SwingWeights x = council(1, 1);
        vote(x, "-,0");
        dueOfCount(x, 10, 0);
        vote(x, "+,+,+,+,+,+,+,+,+,-");
        dueOfCount(x, 10, 9);
        x.setQuota(2);
        vote(x, "+");
        dueOfCount(x, 10, 9);
        x.undo();
        x.undo();
        x.undo();
        dueOfCount(x, 10, 0);
    }

    private static void statesInHistory() {
        SwingWeights x = new SwingWeights();
        dueOfCount(x, 11, 0);
        for (int acts = 1; acts <= 6; acts++) {
            x.setQuota(1 + acts);
            dueOfCount(x, 11, Math.min(acts, 4));
        }
        x.undo();
        dueOfCount(x, 11, 3);
    }

    private static void lengthOfText() {
        SwingWeights x = new SwingWeights();
        dueOfCount(x, 12, 0);
        for (int times = 0; times < 61; times++) {
            x.type('+');
        }
        dueOfCount(x, 12, 60);
        x.clearText();
        dueOfCount(x, 12, 0);
    }

    private static void badWhatOfCount() {
        due("count(12)", new SwingWeights().count(12), 0);
        for (int what : NO_WHATS) {
            due("count(" + what + ")", four().count(what), BAD_VALUE);
            due("count(" + what + ") without members", new SwingWeights().count(what), BAD_VALUE);
        }
    }

    public static void main(String[] args) {
        withQuota();
        leavesOut();
        fairest();
        ballot();
        count();
        end("QuotaEdgeTests");
    }
}
