// The boundary cases of the promises 15 to 19, members and coalitions: a test for each.
public final class PowerEdgeTests extends Sentences {
    private static final int[] NO_WHATS = {-1, 13, 14, 256, 257, 65536, 1 << 30, Integer.MAX_VALUE, Integer.MIN_VALUE,
        Integer.MIN_VALUE + 1};

    // Swings 5, 3, 3, 1 and orders 10, 6, 6, 2.
    private static SwingWeights four() {
        return council(6, 4, 3, 2, 1);
    }

    private static void member() {
        heading("Promise 15");
        sentence("0 for the weight", PowerEdgeTests::weight);
        sentence("1 for whether the member has a veto (1, otherwise 0)", PowerEdgeTests::veto);
        sentence("2 for the lowest member of the bloc", PowerEdgeTests::lowest);
        sentence("3 for the weight of the bloc", PowerEdgeTests::weightOfBloc);
        sentence("4 for the leader of the bloc", PowerEdgeTests::leader);
        sentence("5 for the swings", PowerEdgeTests::swings);
        sentence("6 for the orders", PowerEdgeTests::orders);
        sentence("7 for whether the bloc is a dummy (1, otherwise 0)", PowerEdgeTests::dummy);
        sentence("8 for whether it is a blocker", PowerEdgeTests::blocker);
        sentence("9 for whether it is a dictator", PowerEdgeTests::dictator);
        sentence("10 for the rank (0 for the first)", PowerEdgeTests::rank);
        sentence("11 for the ballots so far in which the bloc had a swing", PowerEdgeTests::swingBallots);
        sentence("held since the member came", PowerEdgeTests::sinceTheMemberCame);
        sentence("the bloc that the member was in then", PowerEdgeTests::blocThen);
        sentence("with another vote the ballot would have passed where it did not", PowerEdgeTests::wouldHavePassed);
        sentence("or not where it did", PowerEdgeTests::wouldNotHavePassed);
        sentence("UNKNOWN", PowerEdgeTests::unknownMember);
        sentence("BAD_VALUE", PowerEdgeTests::badWhatOfMember);
    }

    private static void weight() {
        dueOfMembers(council(1, 0, 50), 0, 0, 50, UNKNOWN);
    }

    private static void veto() {
        SwingWeights x = council(1, 1, 1, 1);
        bloc(x, 0, 1);
        x.setVeto(1, true);
        dueOfMembers(x, 1, 0, 1, 0);
    }

    private static void lowest() {
        SwingWeights x = four();
        dueOfMembers(x, 2, 0, 1, 2, 3);
        bloc(x, 3, 1);
        dueOfMembers(x, 2, 0, 1, 2, 1);
        bloc(x, 3, 0);
        dueOfMembers(x, 2, 0, 0, 2, 0);
    }

    private static void weightOfBloc() {
        SwingWeights x = four();
        dueOfMembers(x, 3, 4, 3, 2, 1);
        bloc(x, 3, 1);
        dueOfMembers(x, 3, 4, 4, 2, 4);
        x.setWeight(3, 0);
        dueOfMembers(x, 3, 4, 3, 2, 3);
    }

    private static void leader() {
        SwingWeights x = council(1, 3, 4, 4, 5);
        dueOfMembers(x, 4, 0, 1, 2, 3);
        bloc(x, 0, 1, 2);
        dueOfMembers(x, 4, 1, 1, 1, 3);
        x.setWeight(2, 5);
        dueOfMembers(x, 4, 2, 2, 2, 3);
        bloc(x, 0, 3);
        dueOfMembers(x, 4, 2, 2, 2, 2);
    }

    private static void swings() {
        dueOfMembers(four(), 5, 5, 3, 3, 1);
        dueOfMembers(council(11, 4, 3, 2, 1), 5, 0, 0, 0, 0);
        dueOfMembers(tenOf(1, 5), 5, 126, 126, 126, 126, 126, 126, 126, 126, 126, 126);
        dueOfMembers(tenOf(50, 500), 5, 1, 1, 1, 1, 1, 1, 1, 1, 1, 1);
        SwingWeights x = tenOf(0, 1);
        x.setWeight(9, 1);
        dueOfMembers(x, 5, 0, 0, 0, 0, 0, 0, 0, 0, 0, 512);
    }

    private static void orders() {
        dueOfMembers(four(), 6, 10, 6, 6, 2);
        dueOfMembers(council(11, 4, 3, 2, 1), 6, 0, 0, 0, 0);
        SwingWeights x = tenOf(0, 1);
        x.setWeight(9, 1);
        dueOfMembers(x, 6, 0, 0, 0, 0, 0, 0, 0, 0, 0, 3628800);
        bloc(x, 0, 1, 2, 3, 4, 5, 6, 7, 8, 9);
        dueOfMembers(x, 6, 1, 1);
    }

    private static void dummy() {
        dueOfMembers(council(9, 4, 3, 2, 1), 7, 0, 0, 0, 1);
        dueOfMembers(council(10, 4, 3, 2, 1), 7, 0, 0, 0, 0);
        dueOfMembers(council(11, 4, 3, 2, 1), 7, 1, 1, 1, 1);
    }

    private static void blocker() {
        dueOfMembers(council(6, 4, 3, 2, 1), 8, 0, 0, 0, 0);
        dueOfMembers(council(7, 4, 3, 2, 1), 8, 1, 0, 0, 0);
        dueOfMembers(council(10, 4, 3, 2, 1), 8, 1, 1, 1, 1);
        dueOfMembers(council(11, 4, 3, 2, 1), 8, 0, 0, 0, 0);
    }

    private static void dictator() {
        dueOfMembers(council(3, 4, 3, 1), 9, 0, 0, 0);
        dueOfMembers(council(4, 4, 2, 1), 9, 1, 0, 0);
        dueOfMembers(council(5, 4, 2, 1), 9, 0, 0, 0);
        SwingWeights x = council(4, 1, 4, 3);
        dueOfMembers(x, 9, 0, 0, 0);
        bloc(x, 0, 1);
        dueOfMembers(x, 9, 1, 1, 0);
        x.setVeto(2, true);
        dueOfMembers(x, 9, 0, 0, 0);
    }

    private static void rank() {
        dueOfMembers(four(), 10, 0, 1, 2, 3);
        dueOfMembers(council(6, 1, 2, 3, 4), 10, 3, 2, 1, 0);
        dueOfMembers(council(1, 0), 10, 0);
        dueOfMembers(tenOf(0, 1), 10, 0, 1, 2, 3, 4, 5, 6, 7, 8, 9);
    }

    private static void swingBallots() {
        SwingWeights x = four();
        dueOfMembers(x, 11, 0, 0, 0, 0);
        vote(x, "+--+,++--,----,++++");
        dueOfMembers(x, 11, 1, 2, 1, 0);
        SwingWeights one = council(1, 1);
        for (int times = 1; times <= 9; times++) {
            vote(one, "+,-");
            dueOfMembers(one, 11, 2 * times);
        }
    }

    private static void sinceTheMemberCame() {
        SwingWeights x = council(1, 1);
        vote(x, "+,+,+");
        x.addMember(1);
        dueOfMembers(x, 11, 3, 0);
        vote(x, "--");
        dueOfMembers(x, 11, 4, 1);
        x.removeMember(1);
        x.addMember(1);
        dueOfMembers(x, 11, 4, 0);
        x.removeMember(0);
        dueOfMembers(x, 11, 0, UNKNOWN);
        dueOfCount(x, 9, 4);
    }

    private static void blocThen() {
        SwingWeights x = council(3, 3, 0, 0);
        bloc(x, 0, 1);
        vote(x, "+--,---");
        dueOfMembers(x, 11, 2, 2, 0);
        x.leave(1);
        dueOfMembers(x, 11, 2, 2, 0);
        bloc(x, 0, 2);
        dueOfMembers(x, 11, 2, 2, 0);
        vote(x, "0+0");
        dueOfMembers(x, 11, 3, 2, 1);
    }

    private static void wouldHavePassed() {
        SwingWeights x = council(6, 4, 2, 1, 0);
        dueOfVote(x, "+-0-", 0);
        dueOfMembers(x, 11, 0, 1, 0, 0);
        dueOfVote(x, "+000", 0);
        dueOfMembers(x, 11, 0, 2, 0, 0);
        dueOfVote(x, "----", 0);
        dueOfMembers(x, 11, 0, 2, 0, 0);
        dueOfVote(x, "-++-", 0);
        dueOfMembers(x, 11, 1, 2, 0, 0);
        x.setVeto(3, true);
        dueOfVote(x, "++--", 0);
        dueOfMembers(x, 11, 1, 2, 0, 1);
        x.setVeto(2, true);
        dueOfVote(x, "++--", 0);
        dueOfMembers(x, 11, 1, 2, 0, 1);
    }

    private static void wouldNotHavePassed() {
        SwingWeights x = council(6, 4, 2, 1, 0);
        dueOfVote(x, "++--", 1);
        dueOfMembers(x, 11, 1, 1, 0, 0);
        dueOfVote(x, "+++-", 1);
        dueOfMembers(x, 11, 2, 2, 0, 0);
        x.setWeight(2, 2);
        dueOfVote(x, "+++-", 1);
        dueOfMembers(x, 11, 3, 2, 0, 0);
        x.setVeto(3, true);
        dueOfVote(x, "++++", 1);
        dueOfMembers(x, 11, 4, 2, 0, 1);
    }

    private static void unknownMember() {
        SwingWeights x = four();
        SwingWeights ten = tenOf(1, 1);
        for (int what = 0; what <= 11; what++) {
            due("member(4, " + what + ")", x.member(4, what), UNKNOWN);
            due("member(-1, " + what + ")", x.member(-1, what), UNKNOWN);
            due("member(10, " + what + ")", ten.member(10, what), UNKNOWN);
            due("member(0, " + what + ") of a new object", new SwingWeights().member(0, what), UNKNOWN);
        }
        for (int m : NO_MEMBERS) {
            due("member(" + m + ", 0)", x.member(m, 0), UNKNOWN);
            due("member(" + m + ", 5) of ten", ten.member(m, 5), UNKNOWN);
            due("member(" + m + ", 12) of ten", ten.member(m, 12), UNKNOWN);
        }
    }

    private static void badWhatOfMember() {
        SwingWeights x = four();
        due("member(0, 12)", x.member(0, 12), BAD_VALUE);
        for (int what : NO_WHATS) {
            due("member(0, " + what + ")", x.member(0, what), BAD_VALUE);
        }
    }

    private static void dueOfShares(SwingWeights x, int member, int... wants) {
        for (int what = 0; what < wants.length; what++) {
            due("share(" + member + ", " + what + ")", x.share(member, what), wants[what]);
        }
    }

    private static void share() {
        heading("Promise 16");
        sentence("its swings divided by the sum of the swings of all blocs", PowerEdgeTests::shareOfSwings);
        sentence("(or its orders by n!)", PowerEdgeTests::shareOfOrders);
        sentence("in lowest terms", PowerEdgeTests::lowestTerms);
        sentence("(0 / 1 if it has none)", PowerEdgeTests::shareOfNone);
        sentence("what: 0 .. 3 for its lower number", PowerEdgeTests::whatsOfShare);
        sentence("UNKNOWN", PowerEdgeTests::shareOfUnknown);
        sentence("BAD_VALUE", PowerEdgeTests::badWhatOfShare);
        sentence("NONE if no coalition wins", PowerEdgeTests::noShareIfNoneWins);
    }

    private static void shareOfSwings() {
        dueOfShares(four(), 0, 5, 12);
        SwingWeights x = council(4, 4, 2, 1, 1);
        dueOfShares(x, 0, 7, 10);
        dueOfShares(x, 3, 1, 10);
        bloc(x, 2, 3);
        dueOfShares(x, 0, 3, 5);
        dueOfShares(x, 2, 1, 5);
        dueOfShares(x, 3, 1, 5);
        dueOfShares(council(1, 50), 0, 1, 1);
    }

    private static void shareOfOrders() {
        SwingWeights x = four();
        due("share(0, 2)", x.share(0, 2), 5);
        due("share(0, 3)", x.share(0, 3), 12);
        SwingWeights three = council(5, 4, 2, 1, 1);
        bloc(three, 2, 3);
        due("share(0, 2)", three.share(0, 2), 2);
        due("share(0, 3)", three.share(0, 3), 3);
        due("share(3, 2)", three.share(3, 2), 1);
        due("share(3, 3)", three.share(3, 3), 6);
        due("share(0, 3) of one", council(1, 50).share(0, 3), 1);
    }

    private static void lowestTerms() {
        dueOfShares(four(), 1, 1, 4, 1, 4);
        dueOfShares(four(), 3, 1, 12, 1, 12);
        dueOfShares(council(5, 3, 2, 1), 0, 1, 2, 1, 2);
        dueOfShares(tenOf(1, 5), 9, 1, 10, 1, 10);
        SwingWeights x = tenOf(0, 1);
        x.setWeight(9, 1);
        dueOfShares(x, 9, 1, 1, 1, 1);
    }

    private static void shareOfNone() {
        dueOfShares(council(5, 3, 2, 1), 2, 0, 1, 0, 1);
        dueOfShares(council(1, 0, 1), 0, 0, 1, 0, 1);
    }

    private static void whatsOfShare() {
        dueOfShares(council(5, 4, 2, 1, 1), 0, 7, 10, 3, 4);
        dueOfShares(council(5, 4, 2, 1, 1), 1, 1, 10, 1, 12);
    }

    private static void shareOfUnknown() {
        SwingWeights x = four();
        SwingWeights ten = tenOf(1, 1);
        dueOfShares(x, 4, UNKNOWN, UNKNOWN, UNKNOWN, UNKNOWN, UNKNOWN);
        for (int m : NO_MEMBERS) {
            due("share(" + m + ", 0)", x.share(m, 0), UNKNOWN);
            due("share(" + m + ", 3) of ten", ten.share(m, 3), UNKNOWN);
            due("share(" + m + ", 4) of ten", ten.share(m, 4), UNKNOWN);
        }
        dueOfShares(new SwingWeights(), 0, UNKNOWN, UNKNOWN, UNKNOWN, UNKNOWN, UNKNOWN);
    }

    private static void badWhatOfShare() {
        SwingWeights x = four();
        due("share(0, 4)", x.share(0, 4), BAD_VALUE);
        for (int what : NO_WHATS) {
            due("share(0, " + what + ")", x.share(0, what), BAD_VALUE);
        }
        due("share(0, 4), when none wins", council(11, 4, 3).share(0, 4), BAD_VALUE);
    }

    private static void noShareIfNoneWins() {
        SwingWeights x = council(9, 4, 3, 2);
        dueOfShares(x, 0, 1, 3, 1, 3);
        x.setQuota(10);
        dueOfShares(x, 0, NONE, NONE, NONE, NONE);
        dueOfShares(council(1, 0, 0), 1, NONE, NONE, NONE, NONE);
    }

    private static void wins() {
        heading("Promise 17");
        sentence("Returns 1 if the coalition of all blocs wins whose members are all in the set", PowerEdgeTests::wholeBlocs);
        sentence("otherwise 0", PowerEdgeTests::losingSets);
        sentence("BAD_VALUE if there is no such member for any bit", PowerEdgeTests::bitsOfNoMember);
    }

    private static void wholeBlocs() {
        SwingWeights x = council(4, 4, 3, 2, 2);
        bloc(x, 1, 3);
        due("wins(1)", x.wins(1), 1);
        due("wins(10), the bloc", x.wins(10), 1);
        due("wins(6), a part of the bloc and 2", x.wins(6), 0);
        due("wins(12), the other part and 2", x.wins(12), 0);
        due("wins(14)", x.wins(14), 1);
        due("wins(15)", x.wins(15), 1);
        bloc(x, 0, 1, 2);
        due("wins(14), all but one of the bloc", x.wins(14), 0);
        due("wins(15)", x.wins(15), 1);
    }

    private static void losingSets() {
        due("wins(0)", council(1, 1).wins(0), 0);
        due("wins(0) without members", new SwingWeights().wins(0), 0);
        due("wins(1), one short of the quota", council(5, 4).wins(1), 0);
        SwingWeights x = tenOf(50, 500);
        for (int m = 0; m < 10; m++) {
            due("wins of all but " + m, x.wins(1023 - (1 << m)), 0);
        }
        due("wins(1023)", x.wins(1023), 1);
    }

    private static void bitsOfNoMember() {
        SwingWeights x = council(1, 1, 1, 1);
        SwingWeights ten = tenOf(1, 1);
        for (int bit = 3; bit < 32; bit++) {
            due("wins(1 << " + bit + ")", x.wins(1 << bit), BAD_VALUE);
            due("wins(7 + (1 << " + bit + "))", x.wins(7 | (1 << bit)), BAD_VALUE);
            due("wins(1 << " + bit + ") of ten", ten.wins(1 << bit), bit < 10 ? 1 : BAD_VALUE);
        }
        due("wins(-1)", ten.wins(-1), BAD_VALUE);
        due("wins(1024)", ten.wins(1024), BAD_VALUE);
        due("wins(1) without members", new SwingWeights().wins(1), BAD_VALUE);
        due("wins(-1) without members", new SwingWeights().wins(-1), BAD_VALUE);
    }

    private static void leastCoalition() {
        heading("Promise 18");
        sentence("rank: a rank among them, from 0", PowerEdgeTests::ranksOfLeast);
        sentence("what: 0 for its members (as bits)", PowerEdgeTests::membersOfLeast);
        sentence("1 for its blocs", PowerEdgeTests::blocsOfLeast);
        sentence("2 for the sum of its weights", PowerEdgeTests::weightOfLeast);
        sentence("BAD_VALUE (rank is negative", PowerEdgeTests::negativeRankOfLeast);
        sentence("or what)", PowerEdgeTests::badWhatOfLeast);
        sentence("NONE if there are not so many", PowerEdgeTests::notSoManyLeast);
    }

    private static void ranksOfLeast() {
        SwingWeights x = four();
        dueOfLeast(x, 0, 5, 2, 6);
        dueOfLeast(x, 2, 14, 3, 6);
        SwingWeights ten = tenOf(1, 5);
        dueOfLeast(ten, 0, 31, 5, 5);
        dueOfLeast(ten, 251, 992, 5, 5);
        dueOfCount(ten, 5, 252);
    }

    private static void membersOfLeast() {
        due("leastCoalition(0, 0) of all ten", tenOf(50, 500).leastCoalition(0, 0), 1023);
        SwingWeights x = tenOf(1, 2);
        bloc(x, 9, 0);
        due("leastCoalition(0, 0), a bloc", x.leastCoalition(0, 0), 513);
        due("leastCoalition(0, 0) of the only one", council(1, 1).leastCoalition(0, 0), 1);
    }

    private static void blocsOfLeast() {
        due("leastCoalition(0, 1) of all ten", tenOf(50, 500).leastCoalition(0, 1), 10);
        SwingWeights x = tenOf(50, 500);
        bloc(x, 0, 1, 2, 3, 4, 5, 6, 7, 8, 9);
        due("leastCoalition(0, 1) of one bloc", x.leastCoalition(0, 1), 1);
    }

    private static void weightOfLeast() {
        due("leastCoalition(0, 2) of all ten", tenOf(50, 500).leastCoalition(0, 2), 500);
        due("leastCoalition(0, 2) of the only one", council(1, 1).leastCoalition(0, 2), 1);
        SwingWeights x = council(2, 2, 0);
        x.setVeto(1, true);
        due("leastCoalition(0, 2) with a veto without weight", x.leastCoalition(0, 2), 2);
    }

    private static void negativeRankOfLeast() {
        SwingWeights x = four();
        for (int rank : new int[] {-1, -2, -256, -65536, Integer.MIN_VALUE, Integer.MIN_VALUE + 1}) {
            due("leastCoalition(" + rank + ", 0)", x.leastCoalition(rank, 0), BAD_VALUE);
            due("leastCoalition(" + rank + ", 3)", x.leastCoalition(rank, 3), BAD_VALUE);
            due("leastCoalition(" + rank + ", 0) of none", council(1, 0).leastCoalition(rank, 0), BAD_VALUE);
        }
    }

    private static void badWhatOfLeast() {
        SwingWeights x = four();
        due("leastCoalition(0, 3)", x.leastCoalition(0, 3), BAD_VALUE);
        for (int what : NO_WHATS) {
            due("leastCoalition(0, " + what + ")", x.leastCoalition(0, what), BAD_VALUE);
            due("leastCoalition(3, " + what + ")", x.leastCoalition(3, what), BAD_VALUE);
        }
    }

    private static void notSoManyLeast() {
        SwingWeights x = four();
        for (int rank : new int[] {3, 4, 252, 253, 1024, 65536, 1 << 30, Integer.MAX_VALUE}) {
            due("leastCoalition(" + rank + ", 0)", x.leastCoalition(rank, 0), NONE);
            due("leastCoalition(" + rank + ", 2) of 252", tenOf(1, 5).leastCoalition(rank, 2), rank < 252 ? 5 : NONE);
        }
        due("leastCoalition(0, 0), when none wins", council(11, 4).leastCoalition(0, 0), NONE);
        due("leastCoalition(0, 0) without members", new SwingWeights().leastCoalition(0, 0), NONE);
    }

    private static void ranked() {
        heading("Promise 19");
        sentence("rank: a rank, from 0", PowerEdgeTests::firstAndLastRank);
        sentence("Returns the member with this rank", PowerEdgeTests::memberWithRank);
        sentence("BAD_VALUE if rank is negative", PowerEdgeTests::negativeRank);
        sentence("NONE if there are not so many members", PowerEdgeTests::notSoManyMembers);
    }

    private static void firstAndLastRank() {
        due("ranked(0)", council(6, 1, 2, 3, 4).ranked(0), 3);
        due("ranked(3)", council(6, 1, 2, 3, 4).ranked(3), 0);
        due("ranked(9) of ten", tenOf(1, 1).ranked(9), 9);
        due("ranked(0) of one", council(1, 0).ranked(0), 0);
    }

    private static void memberWithRank() {
        SwingWeights x = council(4, 1, 2, 3, 2, 0);
        dueOfRanked(x, 2, 1, 3, 0, 4);
        for (int rank = 0; rank < 5; rank++) {
            due("member(ranked(" + rank + "), 10)", x.member(x.ranked(rank), 10), rank);
        }
    }

    private static void negativeRank() {
        for (int rank : new int[] {-1, -2, -10, -256, -65536, Integer.MIN_VALUE, Integer.MIN_VALUE + 1}) {
            due("ranked(" + rank + ")", four().ranked(rank), BAD_VALUE);
            due("ranked(" + rank + ") without members", new SwingWeights().ranked(rank), BAD_VALUE);
        }
    }

    private static void notSoManyMembers() {
        for (int rank : new int[] {4, 5, 9, 10, 256, 65536, 1 << 30, Integer.MAX_VALUE}) {
            due("ranked(" + rank + ")", four().ranked(rank), NONE);
        }
        due("ranked(10) of ten", tenOf(1, 1).ranked(10), NONE);
        due("ranked(0) without members", new SwingWeights().ranked(0), NONE);
    }

    public static void main(String[] args) {
        member();
        share();
        wins();
        leastCoalition();
        ranked();
        end("PowerEdgeTests");
    }
}
