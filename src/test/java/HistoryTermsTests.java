import java.util.function.ToIntFunction;

// The sentences of "Terms" that name a boundary case, under "History" and "Errors": a test for each.
public final class HistoryTermsTests extends Twins {
    // Something of everything: a snapshot that differs, a full history, ballots, a veto, a bloc, a text of two ballots.
    private static SwingWeights busy() {
        SwingWeights x = council(3, 4, 3);
        x.keep();
        x.addMember(2);
        x.setVeto(1, true);
        bloc(x, 2, 0);
        vote(x, "+-+,-++");
        x.setQuota(5);
        return x;
    }

    private static SwingWeights busyWith(String text) {
        SwingWeights x = busy();
        typeAll(x, text);
        return x;
    }

    private static SwingWeights busyTen() {
        SwingWeights x = tenOf(3, 4);
        x.setVeto(9, true);
        x.keep();
        bloc(x, 9, 0);
        vote(x, "+---------,----------");
        return x;
    }

    private static SwingWeights fullText() {
        SwingWeights x = council(1, 1);
        for (int times = 0; times < 30; times++) {
            x.type('+');
            x.type(',');
        }
        return x;
    }

    private static void history() {
        heading("Terms, history");
        sentence("A history of at most 4 states is kept", HistoryTermsTests::fourStates);
        sentence("when one more is recorded, the oldest one is dropped", HistoryTermsTests::oldestDropped);
        sentence("undo() removes and restores the latest one", HistoryTermsTests::latestRestored);
        sentence("Each call of a method that is described as an act records the state before it", HistoryTermsTests::acts);
        sentence("no other method is an act", HistoryTermsTests::noActs);
        sentence("and returns no error", HistoryTermsTests::errorsRecordNothing);
        sentence("and not NONE", HistoryTermsTests::noneRecordsNothing);
        sentence("There is one snapshot", HistoryTermsTests::oneSnapshot);
        sentence("empty at first", HistoryTermsTests::snapshotEmptyAtFirst);
        sentence("A state is everything", HistoryTermsTests::stateIsEverything);
        sentence("but the text", HistoryTermsTests::textIsNoState);
        sentence("the history", HistoryTermsTests::historyIsNoState);
        sentence("and the snapshot", HistoryTermsTests::snapshotIsNoState);
    }

    private static void fourStates() {
        SwingWeights x = new SwingWeights();
        for (int acts = 1; acts <= 4; acts++) {
            x.addMember(acts);
            dueOfCount(x, 11, acts);
        }
        x.addMember(5);
        dueOfCount(x, 11, 4);
        x.addMember(6);
        dueOfCount(x, 11, 4);
        for (int left = 3; left >= 0; left--) {
            dueOfUndo(x, left);
        }
        dueOfUndo(x, NONE);
    }

    private static void oldestDropped() {
        for (int acts = 5; acts <= 13; acts++) {
            SwingWeights x = council(1, 0);
            for (int weight = 1; weight < acts; weight++) {
                x.setWeight(0, weight);
            }
            for (int weight = acts - 2; weight >= acts - 5; weight--) {
                x.undo();
                due("member(0, 0) of " + acts + " acts", x.member(0, 0), weight);
            }
            dueOfUndo(x, NONE);
            due("member(0, 0) of " + acts + " acts", x.member(0, 0), acts - 5);
        }
    }

    private static void latestRestored() {
        SwingWeights x = council(1, 7, 8);
        x.setWeight(0, 9);
        dueOfUndo(x, 2);
        dueOfMembers(x, 0, 7, 8);
        dueOfUndo(x, 1);
        dueOfMembers(x, 0, 7, UNKNOWN);
        x.setWeight(0, 5);
        dueOfUndo(x, 1);
        dueOfMembers(x, 0, 7, UNKNOWN);
        dueOfUndo(x, 0);
        dueOfMembers(x, 0, UNKNOWN);
        dueOfUndo(x, NONE);
    }

    private static void acts() {
        isAct("addMember(6)", HistoryTermsTests::busy, x -> x.addMember(6), 3);
        isAct("removeMember(0)", HistoryTermsTests::busy, x -> x.removeMember(0), 2);
        isAct("setWeight(1, 0)", HistoryTermsTests::busy, x -> x.setWeight(1, 0), 3);
        isAct("setVeto(1, false)", HistoryTermsTests::busy, x -> x.setVeto(1, false), 0);
        isAct("setQuota(500)", HistoryTermsTests::busy, x -> x.setQuota(500), 5);
        isAct("join(1, 2)", HistoryTermsTests::busy, x -> x.join(1, 2), 3);
        isAct("leave(0)", HistoryTermsTests::busy, x -> x.leave(0), 1);
        isAct("vote()", HistoryTermsTests::busy, SwingWeights::vote, 0);
        isAct("restore()", HistoryTermsTests::busy, SwingWeights::restore, 2);
        isAct("addMember(0) of a new object", SwingWeights::new, x -> x.addMember(0), 0);
        isAct("setQuota(2) of a new object", SwingWeights::new, x -> x.setQuota(2), 1);
    }

    private static void noActs() {
        SwingWeights x = council(6, 4, 3);
        dueOfCount(x, 11, 3);
        x.type('+');
        x.clearText();
        x.keep();
        x.member(0, 5);
        x.share(0, 0);
        x.wins(3);
        x.leastCoalition(0, 0);
        x.ranked(0);
        x.withQuota(7, 0);
        x.leavesOut(0, 7);
        x.fairest();
        x.ballot(0, 0);
        x.count(4);
        dueOfCount(x, 11, 3);
        dueOfUndo(x, 2);
        dueOfCount(x, 11, 2);
        dueOfCount(x, 2, 1);
    }

    private static void errorsRecordNothing() {
        SwingWeights x = council(6, 4, 3);
        x.addMember(51);
        x.removeMember(2);
        x.setWeight(2, 1);
        x.setWeight(0, 51);
        x.setVeto(2, true);
        x.setQuota(0);
        x.join(0, 2);
        x.leave(2);
        vote(x, "+-,");
        dueOfCount(x, 11, 3);
        SwingWeights ten = tenOf(1, 1);
        dueOfUndo(ten, 3);
        ten.addMember(1);
        dueOfCount(ten, 11, 4);
        ten.addMember(1);
        dueOfUndo(ten, 3);
        dueOfCount(ten, 0, 9);
    }

    private static void noneRecordsNothing() {
        SwingWeights x = council(6, 4, 3);
        x.setWeight(0, 4);
        x.setVeto(0, false);
        x.setQuota(6);
        x.join(0, 0);
        x.leave(0);
        x.restore();
        dueOfCount(x, 11, 3);
        x.undo();
        x.undo();
        x.undo();
        dueOfUndo(x, NONE);
        dueOfCount(x, 11, 0);
    }

    private static void oneSnapshot() {
        SwingWeights x = council(1, 1);
        x.keep();
        x.setWeight(0, 2);
        x.keep();
        x.setWeight(0, 3);
        x.restore();
        dueOfMembers(x, 0, 2);
        x.restore();
        dueOfMembers(x, 0, 2);
    }

    private static void snapshotEmptyAtFirst() {
        due("restore() of a new object", new SwingWeights().restore(), NONE);
        SwingWeights x = council(5, 4);
        due("restore()", x.restore(), NONE);
        dueOfMembers(x, 0, 4);
        dueOfCount(x, 2, 5);
    }

    private static void stateIsEverything() {
        SwingWeights x = busy();
        x.keep();
        x.setWeight(0, 9);
        x.setVeto(0, true);
        x.setQuota(9);
        x.leave(2);
        vote(x, "+++,+++");
        x.removeMember(0);
        x.restore();
        stateLooksTheSame("after restore()", x, busy());
        x = council(1, 1, 2);
        x.setWeight(0, 3);
        vote(x, "++,--");
        x.removeMember(1);
        for (int times = 0; times < 3; times++) {
            x.undo();
        }
        stateLooksTheSame("after undo()", x, council(1, 1, 2));
    }

    // What was typed after the state was recorded or kept is there still, sign by sign.
    private static void textIsNoState() {
        SwingWeights x = council(2, 1, 1);
        typeAll(x, "--");
        x.keep();
        x.setQuota(1);
        typeAll(x, "+-,-+,+0");
        x.undo();
        dueOfCount(x, 12, 8);
        due("vote() after undo()", x.vote(), 0);
        x.setQuota(1);
        x.restore();
        dueOfCount(x, 12, 8);
        x.setQuota(1);
        due("vote() after restore()", x.vote(), 3);
        x.clearText();
        x.undo();
        dueOfCount(x, 12, 0);
    }

    private static void historyIsNoState() {
        SwingWeights x = council(1, 1);
        x.keep();
        x.setWeight(0, 2);
        x.setWeight(0, 3);
        dueOfCount(x, 11, 3);
        x.restore();
        dueOfCount(x, 11, 4);
        x.undo();
        dueOfMembers(x, 0, 3);
        dueOfCount(x, 11, 3);
        x.undo();
        dueOfMembers(x, 0, 2);
        dueOfCount(x, 11, 2);
    }

    private static void snapshotIsNoState() {
        SwingWeights x = council(1, 1);
        x.setWeight(0, 2);
        x.keep();
        x.undo();
        dueOfMembers(x, 0, 1);
        due("restore() after undo()", x.restore(), 1);
        dueOfMembers(x, 0, 2);
        x.setWeight(0, 3);
        x.keep();
        x.undo();
        x.undo();
        dueOfMembers(x, 0, 1);
        x.restore();
        dueOfMembers(x, 0, 3);
    }

    private static void errors() {
        heading("Terms, errors");
        sentence("the order of the @return line is the order of the checks", HistoryTermsTests::orderOfChecks);
        sentence("NONE is returned only if no error applies", HistoryTermsTests::noneComesLast);
        sentence("UNKNOWN = -1, BAD_VALUE = -2, FULL = -3, NOT_POSSIBLE = -4, NONE = -5", HistoryTermsTests::constants);
        sentence("A call that returns an error changes nothing: the council", HistoryTermsTests::refusedActs);
        sentence("A call that returns an error changes nothing: type, vote", HistoryTermsTests::refusedTexts);
        sentence("A call that returns an error changes nothing: what is asked", HistoryTermsTests::refusedQuestions);
        sentence("A call that returns NONE changes nothing", HistoryTermsTests::noneChangesNothing);
        sentence("An object is used for at most 512 calls", HistoryTermsTests::fiveHundredAndTwelveCalls);
    }

    private static void orderOfChecks() {
        SwingWeights ten = tenOf(1, 11);
        due("addMember(51) of ten", ten.addMember(51), BAD_VALUE);
        due("addMember(-1) of ten", ten.addMember(-1), BAD_VALUE);
        due("setWeight(10, 51)", ten.setWeight(10, 51), UNKNOWN);
        due("setWeight(-1, -1)", ten.setWeight(-1, -1), UNKNOWN);
        due("member(10, 12)", ten.member(10, 12), UNKNOWN);
        due("member(-1, -1)", ten.member(-1, -1), UNKNOWN);
        due("share(10, 4)", ten.share(10, 4), UNKNOWN);
        due("share(-1, -1)", ten.share(-1, -1), UNKNOWN);
        due("leavesOut(10, 501)", ten.leavesOut(10, 501), UNKNOWN);
        due("leavesOut(-1, 0)", ten.leavesOut(-1, 0), UNKNOWN);
    }

    private static void noneComesLast() {
        SwingWeights x = council(9, 4, 3);
        due("setVeto(2, false)", x.setVeto(2, false), UNKNOWN);
        due("join(2, 2)", x.join(2, 2), UNKNOWN);
        due("share(2, 0), when none wins", x.share(2, 0), UNKNOWN);
        due("share(0, 4), when none wins", x.share(0, 4), BAD_VALUE);
        due("share(0, -1), when none wins", x.share(0, -1), BAD_VALUE);
        due("share(0, 0), when none wins", x.share(0, 0), NONE);
        due("leastCoalition(0, 3) of none", x.leastCoalition(0, 3), BAD_VALUE);
        due("leastCoalition(0, -1) of none", x.leastCoalition(0, -1), BAD_VALUE);
        due("leastCoalition(-1, 0) of none", x.leastCoalition(-1, 0), BAD_VALUE);
        due("leavesOut(0, 501)", x.leavesOut(0, 501), BAD_VALUE);
        due("leavesOut(2, 500)", x.leavesOut(2, 500), UNKNOWN);
        due("ballot(0, 3) of none", x.ballot(0, 3), BAD_VALUE);
        due("ballot(8, -1) of none", x.ballot(8, -1), BAD_VALUE);
        due("ballot(-1, 0) of none", x.ballot(-1, 0), BAD_VALUE);
        due("ranked(-1) without members", new SwingWeights().ranked(-1), BAD_VALUE);
    }

    private static void constants() {
        due("UNKNOWN", SwingWeights.UNKNOWN, -1);
        due("BAD_VALUE", SwingWeights.BAD_VALUE, -2);
        due("FULL", SwingWeights.FULL, -3);
        due("NOT_POSSIBLE", SwingWeights.NOT_POSSIBLE, -4);
        due("NONE", SwingWeights.NONE, -5);
    }

    private static void keeps(String call, ToIntFunction<SwingWeights> asked, int want) {
        changesNothing(call, HistoryTermsTests::busy, asked, want);
    }

    private static void refusedActs() {
        keeps("addMember(-1)", x -> x.addMember(-1), BAD_VALUE);
        keeps("addMember(51)", x -> x.addMember(51), BAD_VALUE);
        keeps("removeMember(3)", x -> x.removeMember(3), UNKNOWN);
        keeps("setWeight(3, 1)", x -> x.setWeight(3, 1), UNKNOWN);
        keeps("setWeight(0, 51)", x -> x.setWeight(0, 51), BAD_VALUE);
        keeps("setVeto(3, true)", x -> x.setVeto(3, true), UNKNOWN);
        keeps("setVeto(-1, true)", x -> x.setVeto(-1, true), UNKNOWN);
        keeps("setQuota(0)", x -> x.setQuota(0), BAD_VALUE);
        keeps("setQuota(501)", x -> x.setQuota(501), BAD_VALUE);
        keeps("join(1, 3)", x -> x.join(1, 3), UNKNOWN);
        keeps("join(3, 1)", x -> x.join(3, 1), UNKNOWN);
        keeps("leave(3)", x -> x.leave(3), UNKNOWN);
        changesNothing("addMember(1) of ten", HistoryTermsTests::busyTen, x -> x.addMember(1), FULL);
        changesNothing("setVeto(10, true) of ten", HistoryTermsTests::busyTen, x -> x.setVeto(10, true), UNKNOWN);
    }

    private static void refusedTexts() {
        changesNothing("type('x') of 60", HistoryTermsTests::fullText, x -> x.type('x'), FULL);
        changesNothing("vote() of 60", HistoryTermsTests::fullText, SwingWeights::vote, -160);
        changesNothing("vote() of +++,++", () -> busyWith("+++,++"), SwingWeights::vote, -106);
        changesNothing("vote() of +++,+++,", () -> busyWith("+++,+++,"), SwingWeights::vote, -108);
        changesNothing("vote() of +++,+++x", () -> busyWith("+++,+++x"), SwingWeights::vote, -107);
        changesNothing("vote() of nothing", () -> busyWith(""), SwingWeights::vote, -100);
        changesNothing("vote() of a new object", SwingWeights::new, SwingWeights::vote, -100);
    }

    private static void refusedQuestions() {
        keeps("member(3, 0)", x -> x.member(3, 0), UNKNOWN);
        keeps("member(0, 12)", x -> x.member(0, 12), BAD_VALUE);
        keeps("share(3, 0)", x -> x.share(3, 0), UNKNOWN);
        keeps("share(0, 4)", x -> x.share(0, 4), BAD_VALUE);
        keeps("wins(8)", x -> x.wins(8), BAD_VALUE);
        keeps("leastCoalition(-1, 0)", x -> x.leastCoalition(-1, 0), BAD_VALUE);
        keeps("ranked(-1)", x -> x.ranked(-1), BAD_VALUE);
        keeps("withQuota(501, 0)", x -> x.withQuota(501, 0), BAD_VALUE);
        keeps("withQuota(7, 4)", x -> x.withQuota(7, 4), BAD_VALUE);
        keeps("leavesOut(3, 7)", x -> x.leavesOut(3, 7), UNKNOWN);
        keeps("leavesOut(0, 0)", x -> x.leavesOut(0, 0), BAD_VALUE);
        keeps("ballot(-1, 0)", x -> x.ballot(-1, 0), BAD_VALUE);
        keeps("count(13)", x -> x.count(13), BAD_VALUE);
    }

    private static void noneChangesNothing() {
        keeps("setWeight(0, 4)", x -> x.setWeight(0, 4), NONE);
        keeps("setVeto(1, true)", x -> x.setVeto(1, true), NONE);
        keeps("setVeto(0, false)", x -> x.setVeto(0, false), NONE);
        keeps("setQuota(5)", x -> x.setQuota(5), NONE);
        keeps("join(0, 2)", x -> x.join(0, 2), NONE);
        keeps("join(1, 1)", x -> x.join(1, 1), NONE);
        keeps("leave(1)", x -> x.leave(1), NONE);
        keeps("leastCoalition(9, 0)", x -> x.leastCoalition(9, 0), NONE);
        keeps("ranked(3)", x -> x.ranked(3), NONE);
        keeps("leavesOut(0, 10)", x -> x.leavesOut(0, 10), NONE);
        keeps("ballot(2, 0)", x -> x.ballot(2, 0), NONE);
        changesNothing("restore()", () -> council(5, 4, 3), SwingWeights::restore, NONE);
        changesNothing("undo() of a new object", SwingWeights::new, SwingWeights::undo, NONE);
        changesNothing("share(0, 0)", () -> council(9, 4, 3), x -> x.share(0, 0), NONE);
        changesNothing("fairest()", () -> council(9, 0, 0), SwingWeights::fairest, NONE);
    }

    // 512 calls in all, each with the answer that is due.
    private static void fiveHundredAndTwelveCalls() {
        SwingWeights x = council(1, 1);
        int calls = 2;
        for (int length = 1; length <= 59; length++) {
            due("type", x.type(length % 2 == 1 ? '+' : ','), length);
            calls++;
        }
        for (int votes = 1; calls + 3 <= 512; votes++) {
            due("vote()", x.vote(), 30);
            due("count(9)", x.count(9), 30 * votes);
            due("member(0, 11)", x.member(0, 11), 30 * votes);
            calls += 3;
        }
        due("calls", calls, 511);
        due("count(10), the 512th call", x.count(10), 30 * 150);
    }

    public static void main(String[] args) {
        history();
        errors();
        end("HistoryTermsTests");
    }
}
