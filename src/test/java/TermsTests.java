// The sentences of "Terms" that name a boundary case, from "The council" to "Texts": a test for each.
public final class TermsTests extends Sentences {
    private static void council() {
        heading("Terms, the council");
        sentence("There are at most 10 members", TermsTests::atMostTenMembers);
        sentence("numbered from 0", TermsTests::numberedFromZero);
        sentence("when one goes, the later ones come one number earlier", TermsTests::laterOnesComeEarlier);
        sentence("A member has a weight (0 to 50)", TermsTests::weightsFromZeroToFifty);
        sentence("and may have a veto (at first not)", TermsTests::noVetoAtFirst);
        sentence("There is a quota (1 to 500", TermsTests::quotaFromOneToFiveHundred);
        sentence("at first 1)", TermsTests::quotaAtFirst);
        sentence("Each member is in one bloc, at first alone", TermsTests::aloneAtFirst);
        sentence("The members of a bloc vote as one", TermsTests::blocVotesAsOne);
        sentence("A bloc is told by its lowest member", TermsTests::toldByLowest);
        sentence("its weight is the sum of those of its members", TermsTests::weightOfBloc);
        sentence("it has a veto if any of its members has one", TermsTests::vetoOfBloc);
        sentence("so n blocs are in an order", TermsTests::asManyBlocs);
        sentence("A coalition is a set of blocs", TermsTests::coalitionIsSetOfBlocs);
        sentence("It wins if the weights of its blocs together are at least the quota", TermsTests::atLeastTheQuota);
        sentence("and it has each bloc that has a veto in it", TermsTests::eachBlocWithVeto);
    }

    private static void atMostTenMembers() {
        SwingWeights x = new SwingWeights();
        for (int m = 0; m < 10; m++) {
            due("addMember(1)", x.addMember(1), m);
        }
        due("addMember(1), the 11th", x.addMember(1), FULL);
        dueOfCount(x, 0, 10);
    }

    private static void numberedFromZero() {
        SwingWeights x = new SwingWeights();
        due("addMember(7)", x.addMember(7), 0);
        due("member(0, 0)", x.member(0, 0), 7);
        due("member(1, 0)", x.member(1, 0), UNKNOWN);
    }

    // weights 10, 20, 30, 40; a veto of 2; the bloc of 1 and 3; a ballot in which this bloc alone had a swing
    private static SwingWeights four() {
        SwingWeights x = council(50, 10, 20, 30, 40);
        x.setVeto(2, true);
        bloc(x, 1, 3);
        vote(x, "---+");
        vote(x, "--++");
        return x;
    }

    private static void laterOnesComeEarlier() {
        SwingWeights x = four();
        dueOfMembers(x, 11, 0, 1, 2, 1);
        x.removeMember(0);
        dueOfMembers(x, 0, 20, 30, 40, UNKNOWN);
        dueOfMembers(x, 1, 0, 1, 0, UNKNOWN);
        dueOfMembers(x, 2, 0, 1, 0, UNKNOWN);
        dueOfMembers(x, 11, 1, 2, 1, UNKNOWN);
        x = four();
        x.removeMember(1);
        dueOfMembers(x, 0, 10, 30, 40, UNKNOWN);
        dueOfMembers(x, 1, 0, 1, 0, UNKNOWN);
        dueOfMembers(x, 2, 0, 1, 2, UNKNOWN);
        dueOfMembers(x, 11, 0, 2, 1, UNKNOWN);
        x = four();
        x.removeMember(3);
        dueOfMembers(x, 0, 10, 20, 30, UNKNOWN);
        dueOfMembers(x, 1, 0, 0, 1, UNKNOWN);
        dueOfMembers(x, 2, 0, 1, 2, UNKNOWN);
        dueOfMembers(x, 11, 0, 1, 2, UNKNOWN);
    }

    private static void weightsFromZeroToFifty() {
        SwingWeights x = new SwingWeights();
        due("addMember(0)", x.addMember(0), 0);
        due("addMember(50)", x.addMember(50), 1);
        due("addMember(-1)", x.addMember(-1), BAD_VALUE);
        due("addMember(51)", x.addMember(51), BAD_VALUE);
        due("setWeight(0, 50)", x.setWeight(0, 50), 0);
        due("setWeight(1, 0)", x.setWeight(1, 0), 50);
        due("setWeight(0, 51)", x.setWeight(0, 51), BAD_VALUE);
        due("setWeight(0, -1)", x.setWeight(0, -1), BAD_VALUE);
        dueOfMembers(x, 0, 50, 0);
    }

    private static void noVetoAtFirst() {
        SwingWeights x = council(1, 5, 5);
        dueOfMembers(x, 1, 0, 0);
        x.setVeto(1, true);
        x.removeMember(1);
        x.addMember(5);
        dueOfMembers(x, 1, 0, 0);
        dueOfCount(x, 8, 0);
    }

    private static void quotaFromOneToFiveHundred() {
        SwingWeights x = new SwingWeights();
        due("setQuota(500)", x.setQuota(500), 1);
        due("setQuota(501)", x.setQuota(501), BAD_VALUE);
        due("setQuota(1)", x.setQuota(1), 500);
        due("setQuota(0)", x.setQuota(0), BAD_VALUE);
        dueOfCount(x, 2, 1);
    }

    private static void quotaAtFirst() {
        SwingWeights x = new SwingWeights();
        dueOfCount(x, 2, 1);
        x.addMember(0);
        due("wins(1) with the weight 0", x.wins(1), 0);
        x.addMember(1);
        due("wins(2) with the weight 1", x.wins(2), 1);
    }

    private static void aloneAtFirst() {
        SwingWeights x = council(1, 5, 6, 7);
        dueOfMembers(x, 2, 0, 1, 2);
        dueOfMembers(x, 3, 5, 6, 7);
        bloc(x, 0, 1, 2);
        x.removeMember(2);
        x.addMember(9);
        dueOfMembers(x, 2, 0, 0, 2);
        dueOfMembers(x, 3, 11, 11, 9);
    }

    private static void blocVotesAsOne() {
        SwingWeights x = council(3, 2, 1, 1);
        bloc(x, 1, 2);
        dueOfCount(x, 4, 1);
        due("wins(3), where 1 has not its bloc", x.wins(3), 0);
        dueOfVote(x, "++-", 1);
        dueOfBallot(x, 0, 1, 4, 1);
    }

    private static void toldByLowest() {
        SwingWeights x = tenOf(1, 1);
        x.join(9, 8);
        dueOfMembers(x, 2, 0, 1, 2, 3, 4, 5, 6, 7, 8, 8);
        x.join(9, 3);
        dueOfMembers(x, 2, 0, 1, 2, 3, 4, 5, 6, 7, 3, 3);
        x.leave(3);
        dueOfMembers(x, 2, 0, 1, 2, 3, 4, 5, 6, 7, 8, 8);
        x.join(8, 0);
        x.removeMember(0);
        dueOfMembers(x, 2, 0, 1, 2, 3, 4, 5, 6, 7, 7, UNKNOWN);
    }

    private static void weightOfBloc() {
        SwingWeights x = tenOf(50, 500);
        dueOfMembers(x, 3, 50, 50);
        bloc(x, 0, 1, 2, 3, 4, 5, 6, 7, 8, 9);
        dueOfMembers(x, 3, 500, 500, 500, 500, 500, 500, 500, 500, 500, 500);
        due("wins(1023)", x.wins(1023), 1);
        SwingWeights none = council(1, 0, 0);
        bloc(none, 0, 1);
        dueOfMembers(none, 3, 0, 0);
        due("wins(3)", none.wins(3), 0);
    }

    private static void vetoOfBloc() {
        SwingWeights x = council(1, 1, 1, 1);
        bloc(x, 1, 2);
        due("wins(1) without vetoes", x.wins(1), 1);
        x.setVeto(2, true);
        due("wins(1) with a veto of 2", x.wins(1), 0);
        due("wins(6) with a veto of 2", x.wins(6), 1);
        x.setVeto(1, true);
        due("wins(6) with vetoes of 1 and 2", x.wins(6), 1);
        x.setVeto(2, false);
        due("wins(1) with a veto of 1", x.wins(1), 0);
        x.setVeto(1, false);
        due("wins(1) without vetoes again", x.wins(1), 1);
        x.setVeto(2, true);
        x.leave(2);
        dueOfMembers(x, 8, 0, 0, 1);
    }

    private static void asManyBlocs() {
        SwingWeights x = new SwingWeights();
        dueOfCount(x, 1, 0);
        x.addMember(1);
        dueOfCount(x, 1, 1);
        x = tenOf(1, 1);
        dueOfCount(x, 1, 10);
        bloc(x, 0, 1, 2, 3, 4, 5, 6, 7, 8);
        dueOfCount(x, 1, 2);
        x.join(9, 8);
        dueOfCount(x, 1, 1);
    }

    // All 1024 but the empty one win; the blocs without weight count too.
    private static void coalitionIsSetOfBlocs() {
        dueOfCount(tenOf(1, 1), 4, 1023);
        dueOfCount(council(1, 1, 0, 0), 4, 4);
        SwingWeights x = council(1, 1, 0, 0);
        bloc(x, 1, 2);
        dueOfCount(x, 4, 2);
        due("wins(3), where the half of a bloc adds nothing", x.wins(3), 1);
        dueOfCount(new SwingWeights(), 4, 0);
    }

    private static void atLeastTheQuota() {
        SwingWeights x = council(5, 3, 2, 1);
        due("wins(3), 5 of 5", x.wins(3), 1);
        due("wins(5), 4 of 5", x.wins(5), 0);
        dueOfCount(x, 4, 2);
        x.setQuota(6);
        due("wins(7), 6 of 6", x.wins(7), 1);
        due("wins(3), 5 of 6", x.wins(3), 0);
        x.setQuota(7);
        due("wins(7), 6 of 7", x.wins(7), 0);
        due("wins(1023), 500 of 500", tenOf(50, 500).wins(1023), 1);
        due("wins(1022), 450 of 500", tenOf(50, 500).wins(1022), 0);
    }

    private static void eachBlocWithVeto() {
        SwingWeights x = council(3, 3, 3, 0, 0);
        due("wins(1)", x.wins(1), 1);
        x.setVeto(2, true);
        due("wins(3) without the veto of 2", x.wins(3), 0);
        due("wins(5) with it", x.wins(5), 1);
        dueOfCount(x, 4, 6);
        x.setVeto(3, true);
        dueOfCount(x, 4, 3);
        due("wins(7) with one of two", x.wins(7), 0);
        due("wins(11) with the other one", x.wins(11), 0);
        due("wins(13) with both", x.wins(13), 1);
        due("wins(12), both vetoes and no weight", x.wins(12), 0);
    }

    private static void power() {
        heading("Terms, power");
        sentence("The swings are the coalitions without it that do not win, but do so with it", TermsTests::swings);
        sentence("The swings, where a veto is in the way", TermsTests::swingsByVeto);
        sentence("The orders are those of the n! in which the blocs ahead do not win, but do so with it", TermsTests::orders);
        sentence("The swings and orders of a member are those of its bloc", TermsTests::powerOfMember);
        sentence("A bloc is a dummy if it has no swings", TermsTests::dummy);
        sentence("a blocker if no coalition without it wins", TermsTests::blocker);
        sentence("and any wins", TermsTests::noBlockerIfNoneWins);
        sentence("a dictator if it wins alone", TermsTests::dictatorWinsAlone);
        sentence("and all other blocs are dummies", TermsTests::dictatorLeavesDummies);
        sentence("A least coalition is one that wins", TermsTests::leastWins);
        sentence("but does not without any one of its blocs", TermsTests::leastNeedsEach);
        sentence("Least coalitions have an order: by how many blocs they have", TermsTests::leastByBlocs);
        sentence("then by the sum of their weights", TermsTests::leastByWeight);
        sentence("then by their members as bits", TermsTests::leastByMembers);
        sentence("Members have ranks: by their swings, the most first", TermsTests::rankBySwings);
        sentence("then by their own weights, the greatest first", TermsTests::rankByWeight);
        sentence("then by their numbers", TermsTests::rankByNumber);
    }

    private static void swings() {
        SwingWeights x = council(5, 3, 2, 1);
        dueOfMembers(x, 5, 2, 2, 0);
        x.setQuota(6);
        dueOfMembers(x, 5, 1, 1, 1);
        x.setQuota(4);
        dueOfMembers(x, 5, 3, 1, 1);
        x.setQuota(7);
        dueOfMembers(x, 5, 0, 0, 0);
        dueOfMembers(council(50, 50, 0, 0, 0, 0, 0, 0, 0, 0, 0), 5, 512, 0, 0, 0, 0, 0, 0, 0, 0, 0);
    }

    private static void swingsByVeto() {
        SwingWeights x = council(3, 3, 2, 1);
        x.setVeto(2, true);
        dueOfMembers(x, 5, 1, 1, 3);
        x.setWeight(2, 0);
        dueOfMembers(x, 5, 2, 0, 2);
    }

    private static void orders() {
        dueOfMembers(council(1, 1), 6, 1);
        dueOfMembers(council(3, 3, 0), 6, 2, 0);
        dueOfMembers(council(3, 1, 1, 1), 6, 2, 2, 2);
        dueOfMembers(council(4, 1, 1, 1), 6, 0, 0, 0);
        dueOfMembers(council(50, 50, 0, 0, 0, 0, 0, 0, 0, 0, 0), 6, 3628800, 0, 0, 0, 0, 0, 0, 0, 0, 0);
        dueOfMembers(tenOf(1, 10), 6, 362880, 362880, 362880, 362880, 362880, 362880, 362880, 362880, 362880, 362880);
        SwingWeights x = council(3, 3, 2, 1);
        x.setVeto(2, true);
        dueOfMembers(x, 6, 1, 1, 4);
    }

    private static void powerOfMember() {
        SwingWeights x = council(4, 3, 2, 1);
        bloc(x, 2, 0);
        dueOfMembers(x, 5, 2, 0, 2);
        dueOfMembers(x, 6, 2, 0, 2);
    }

    private static void dummy() {
        SwingWeights x = council(5, 3, 2, 1);
        dueOfMembers(x, 7, 0, 0, 1);
        x.setQuota(6);
        dueOfMembers(x, 7, 0, 0, 0);
        x.setQuota(7);
        dueOfMembers(x, 7, 1, 1, 1);
        dueOfMembers(council(1, 0, 1), 7, 1, 0);
        SwingWeights veto = council(1, 0, 1);
        veto.setVeto(0, true);
        dueOfMembers(veto, 7, 0, 0);
    }

    private static void blocker() {
        SwingWeights x = council(5, 3, 2, 1);
        dueOfMembers(x, 8, 1, 1, 0);
        x.setQuota(4);
        dueOfMembers(x, 8, 1, 0, 0);
        x.setQuota(3);
        dueOfMembers(x, 8, 0, 0, 0);
        x.setVeto(2, true);
        dueOfMembers(x, 8, 0, 0, 1);
        x.setQuota(6);
        dueOfMembers(x, 8, 1, 1, 1);
    }

    private static void noBlockerIfNoneWins() {
        SwingWeights x = council(7, 3, 2, 1);
        dueOfMembers(x, 8, 0, 0, 0);
        x.setVeto(0, true);
        dueOfMembers(x, 8, 0, 0, 0);
        dueOfMembers(council(1, 0), 8, 0);
    }

    private static void dictatorWinsAlone() {
        SwingWeights x = council(5, 5, 2, 2);
        dueOfMembers(x, 9, 1, 0, 0);
        x.setQuota(6);
        dueOfMembers(x, 9, 0, 0, 0);
        x.setQuota(10);
        dueOfMembers(x, 9, 0, 0, 0);
        dueOfMembers(council(1, 1), 9, 1);
        dueOfMembers(council(2, 1), 9, 0);
        x.setQuota(5);
        x.setVeto(0, true);
        dueOfMembers(x, 9, 1, 0, 0);
        x.setVeto(1, true);
        dueOfMembers(x, 9, 0, 0, 0);
    }

    private static void dictatorLeavesDummies() {
        SwingWeights x = council(4, 5, 2, 2);
        dueOfMembers(x, 9, 0, 0, 0);
        dueOfMembers(council(1, 1, 1), 9, 0, 0);
        dueOfMembers(council(1, 1, 0), 9, 1, 0);
        bloc(x, 0, 1, 2);
        dueOfMembers(x, 9, 1, 1, 1);
    }

    private static void leastWins() {
        SwingWeights x = council(3, 1, 1, 1);
        dueOfCount(x, 5, 1);
        dueOfLeast(x, 0, 7, 3, 3);
        x.setQuota(4);
        dueOfCount(x, 5, 0);
        x.setQuota(3);
        x.setWeight(0, 3);
        x.setVeto(1, true);
        dueOfCount(x, 5, 1);
        dueOfLeast(x, 0, 3, 2, 4);
    }

    private static void leastNeedsEach() {
        SwingWeights x = council(5, 5, 0, 3, 2);
        dueOfCount(x, 5, 2);
        dueOfLeast(x, 0, 1, 1, 5);
        dueOfLeast(x, 1, 12, 2, 5);
        x.setVeto(1, true);
        dueOfCount(x, 5, 2);
        dueOfLeast(x, 0, 3, 2, 5);
        dueOfLeast(x, 1, 14, 3, 5);
    }

    private static void leastByBlocs() {
        SwingWeights x = council(3, 1, 1, 1, 9);
        dueOfLeast(x, 0, 8, 1, 9);
        dueOfLeast(x, 1, 7, 3, 3);
        SwingWeights blocs = council(3, 2, 1, 1, 1, 1);
        bloc(blocs, 2, 3, 4);
        dueOfLeast(blocs, 0, 28, 1, 3);
        dueOfLeast(blocs, 1, 3, 2, 3);
    }

    private static void leastByWeight() {
        SwingWeights x = council(6, 4, 3, 2, 1);
        dueOfLeast(x, 0, 5, 2, 6);
        dueOfLeast(x, 1, 3, 2, 7);
        dueOfLeast(x, 2, 14, 3, 6);
    }

    // The bloc of 0 and 3 is the first of three, but the other two have the fewest bits.
    private static void leastByMembers() {
        SwingWeights x = council(2, 1, 1, 1, 0);
        bloc(x, 0, 3);
        dueOfLeast(x, 0, 6, 2, 2);
        dueOfLeast(x, 1, 11, 2, 2);
        dueOfLeast(x, 2, 13, 2, 2);
        SwingWeights ten = tenOf(1, 9);
        for (int without = 9; without >= 0; without--) {
            dueOfLeast(ten, 9 - without, 1023 - (1 << without), 9, 9);
        }
    }

    private static void rankBySwings() {
        SwingWeights x = council(4, 3, 1, 3);
        bloc(x, 1, 2);
        dueOfRanked(x, 2, 1, 0);
        dueOfMembers(x, 10, 2, 1, 0);
    }

    // With the sum of all weights as the quota each bloc has one swing.
    private static void rankByWeight() {
        SwingWeights x = council(9, 2, 3, 4);
        dueOfRanked(x, 2, 1, 0);
        SwingWeights blocs = council(9, 1, 3, 4, 1);
        bloc(blocs, 0, 2);
        dueOfRanked(blocs, 2, 1, 0, 3);
        dueOfMembers(blocs, 10, 2, 1, 0, 3);
        dueOfRanked(council(500, 0, 50), 1, 0);
    }

    private static void rankByNumber() {
        dueOfRanked(tenOf(5, 9), 0, 1, 2, 3, 4, 5, 6, 7, 8, 9);
        dueOfMembers(tenOf(5, 9), 10, 0, 1, 2, 3, 4, 5, 6, 7, 8, 9);
        dueOfRanked(council(1, 0, 0), 0, 1);
    }

    private static void ballots() {
        heading("Terms, ballots");
        sentence("A ballot is a sign for each member: \"+\", \"-\" or \"0\"", TermsTests::signs);
        sentence("The leader of a bloc is its member with the greatest weight", TermsTests::leader);
        sentence("of several the lowest one", TermsTests::leaderOfSeveral);
        sentence("the bloc votes as its leader", TermsTests::votesAsLeader);
        sentence("The ballot passes if the coalition of the blocs that vote \"+\" wins", TermsTests::passes);
        sentence("The latest 8 ballots are known", TermsTests::eightBallots);
    }

    private static void signs() {
        SwingWeights x = council(1, 1, 1);
        dueOfVote(x, "+-,0+,-0,00", 2);
        dueOfBallot(x, 3, 1, 1, 0);
        dueOfBallot(x, 2, 1, 1, 0);
        dueOfBallot(x, 1, 0, 0, 0);
        dueOfBallot(x, 0, 0, 0, 0);
        char[] others = {'*', ',', '.', '/', '1', 'O', '=', ' ', (char) 0, (char) 299, (char) 65535, (char) ('+' + 256)};
        for (char other : others) {
            dueOfVote(x, "+" + other, -101);
        }
    }

    private static void leader() {
        SwingWeights x = council(1, 1, 2, 3);
        dueOfMembers(x, 4, 0, 1, 2);
        bloc(x, 0, 1, 2);
        dueOfMembers(x, 4, 2, 2, 2);
        x.setWeight(1, 4);
        dueOfMembers(x, 4, 1, 1, 1);
        x.leave(1);
        dueOfMembers(x, 4, 2, 1, 2);
    }

    private static void leaderOfSeveral() {
        SwingWeights x = council(1, 2, 5, 5, 1);
        bloc(x, 3, 2, 1, 0);
        dueOfMembers(x, 4, 1, 1, 1, 1);
        SwingWeights zero = council(1, 0, 0, 0);
        bloc(zero, 2, 1);
        dueOfMembers(zero, 4, 0, 1, 1);
        SwingWeights ten = tenOf(50, 1);
        bloc(ten, 9, 8, 7, 6, 5, 4, 3, 2, 1, 0);
        dueOfMembers(ten, 4, 0, 0, 0, 0, 0, 0, 0, 0, 0, 0);
    }

    private static void votesAsLeader() {
        SwingWeights x = council(3, 1, 2);
        bloc(x, 0, 1);
        dueOfVote(x, "+-", 0);
        dueOfBallot(x, 0, 0, 0, 1);
        dueOfVote(x, "-+", 1);
        dueOfBallot(x, 0, 1, 3, 1);
        x.setWeight(0, 2);
        dueOfVote(x, "+-", 1);
        dueOfVote(x, "0+", 0);
    }

    private static void passes() {
        SwingWeights x = council(5, 3, 2, 1);
        dueOfVote(x, "++-", 1);
        dueOfVote(x, "+-+", 0);
        dueOfVote(x, "+0+", 0);
        x.setVeto(2, true);
        dueOfVote(x, "++-", 0);
        dueOfVote(x, "++0", 0);
        dueOfVote(x, "+++", 1);
        dueOfVote(tenOf(50, 500), "++++++++++", 1);
        dueOfVote(tenOf(50, 500), "+++++++++0", 0);
    }

    private static void eightBallots() {
        SwingWeights x = council(1, 1);
        vote(x, "+,-,-,-,-,-,-");
        due("ballot(6, 0) of seven", x.ballot(6, 0), 1);
        due("ballot(7, 0) of seven", x.ballot(7, 0), NONE);
        vote(x, "-");
        due("ballot(7, 0) of eight", x.ballot(7, 0), 1);
        due("ballot(8, 0) of eight", x.ballot(8, 0), NONE);
        vote(x, "-");
        due("ballot(7, 0) of nine", x.ballot(7, 0), 0);
        due("ballot(8, 0) of nine", x.ballot(8, 0), NONE);
        vote(x, "-,-,-,-,-,-,-,-,+,-,-,-,-,-,-,-");
        due("ballot(7, 0) of 16 at once", x.ballot(7, 0), 1);
        due("ballot(8, 0) of 16 at once", x.ballot(8, 0), NONE);
    }

    private static void texts() {
        heading("Terms, texts");
        sentence("There is a text of at most 60 characters", TermsTests::sixtyCharacters);
        sentence("empty at first", TermsTests::textEmptyAtFirst);
        sentence("A text of ballots is one or more ballots", TermsTests::oneOrMoreBallots);
        sentence("with \",\" between two", TermsTests::commaBetweenTwo);
        sentence("each ballot has as many signs as there are members", TermsTests::signsAsMembers);
        sentence("The fault is the index, from 0, of the first character not allowed at its place", TermsTests::faultIndex);
        sentence("or the length of the text if it ends too early", TermsTests::faultLength);
        sentence("(the empty text does", TermsTests::faultOfEmpty);
        sentence("without members any text has the fault 0)", TermsTests::faultWithoutMembers);
    }

    private static void sixtyCharacters() {
        SwingWeights x = new SwingWeights();
        for (int length = 1; length <= 60; length++) {
            due("type", x.type('x'), length);
        }
        due("type, the 61st", x.type('x'), FULL);
        dueOfCount(x, 12, 60);
    }

    private static void textEmptyAtFirst() {
        SwingWeights x = council(1, 1);
        dueOfCount(x, 12, 0);
        due("vote()", x.vote(), -100);
        due("clearText()", x.clearText(), 0);
    }

    private static void oneOrMoreBallots() {
        SwingWeights x = council(1, 1);
        dueOfVote(x, "+", 1);
        dueOfVote(x, "+,+", 2);
        dueOfVote(x, "+,+,+,+,+,+,+,+,+,+,+,+,+,+,+,+,+,+,+,+,+,+,+,+,+,+,+,+,+,+", 30);
        dueOfVote(tenOf(1, 1), "++++++++++,++++++++++,++++++++++,++++++++++,++++++++++", 5);
    }

    private static void commaBetweenTwo() {
        SwingWeights x = council(1, 1);
        dueOfVote(x, ",", -100);
        dueOfVote(x, ",+", -100);
        dueOfVote(x, "+,", -102);
        dueOfVote(x, "+,,+", -102);
        dueOfVote(x, "+-", -101);
        dueOfVote(x, "+;-", -101);
        dueOfVote(x, "+ -", -101);
        dueOfVote(x, "+" + (char) (',' + 256) + "-", -101);
        dueOfVote(x, "+,-", 1);
    }

    private static void signsAsMembers() {
        SwingWeights x = council(1, 1, 1);
        dueOfVote(x, "+,++", -101);
        dueOfVote(x, "+++,++", -102);
        dueOfVote(x, "++,+,++", -104);
        dueOfVote(x, "++,+++", -105);
        dueOfVote(x, "++,++", 2);
        x.addMember(1);
        due("vote() with one more member", x.vote(), -102);
        x.removeMember(2);
        x.removeMember(1);
        due("vote() with one member less", x.vote(), -101);
        SwingWeights ten = tenOf(1, 1);
        dueOfVote(ten, "+++++++++,", -109);
        dueOfVote(ten, "+++++++++++", -110);
    }

    private static void faultIndex() {
        SwingWeights x = council(1, 1, 1);
        dueOfVote(x, "x+", -100);
        dueOfVote(x, "+x", -101);
        dueOfVote(x, "++x", -102);
        dueOfVote(x, "++,x+", -103);
        dueOfVote(x, "++,+x,xx", -104);
        dueOfVote(x, "x", -100);
        SwingWeights ten = tenOf(1, 1);
        String fives = "+-0+-0+-0+,+-0+-0+-0+,+-0+-0+-0+,+-0+-0+-0+,+-0+-0+-0+,";
        dueOfVote(ten, fives + "++++x", -159);
        dueOfVote(ten, fives + "+++x+", -158);
    }

    private static void faultLength() {
        SwingWeights x = council(1, 1, 1);
        dueOfVote(x, "+", -101);
        dueOfVote(x, "++,", -103);
        dueOfVote(x, "++,+", -104);
        SwingWeights ten = tenOf(1, 1);
        String fives = "+-0+-0+-0+,+-0+-0+-0+,+-0+-0+-0+,+-0+-0+-0+,+-0+-0+-0+,";
        dueOfVote(ten, "+++++++++", -109);
        dueOfVote(ten, fives, -155);
        dueOfVote(ten, fives + "++++", -159);
        dueOfVote(ten, fives + "+++++", -160);
        due("type, when the text is full", ten.type('+'), FULL);
        due("vote(), when the text is full", ten.vote(), -160);
    }

    private static void faultOfEmpty() {
        SwingWeights x = council(1, 1);
        due("vote()", x.vote(), -100);
        dueOfVote(x, "+", 1);
        x.clearText();
        due("vote()", x.vote(), -100);
        due("vote() with ten members", tenOf(1, 1).vote(), -100);
    }

    private static void faultWithoutMembers() {
        SwingWeights x = new SwingWeights();
        due("vote()", x.vote(), -100);
        dueOfVote(x, "+", -100);
        dueOfVote(x, ",", -100);
        dueOfVote(x, "+,-", -100);
        dueOfVote(x, ",,,,,,,,,,,,,,,,,,,,,,,,,,,,,,,,,,,,,,,,,,,,,,,,,,,,,,,,,,,,", -100);
        x.addMember(1);
        dueOfVote(x, "+", 1);
        x.removeMember(0);
        due("vote() after the last member went", x.vote(), -100);
    }

    public static void main(String[] args) {
        council();
        power();
        ballots();
        texts();
        end("TermsTests");
    }
}
