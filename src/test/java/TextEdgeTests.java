// The boundary cases of the promises 9 to 14, texts and history: a test for each.
public final class TextEdgeTests extends Twins {
    private static final String THIRTY_BALLOTS = "+,-,+,-,+,-,+,-,+,-,+,-,+,-,+,-,+,-,+,-,+,-,+,-,+,-,+,-,+,0";

    private static SwingWeights two() {
        SwingWeights x = council(3, 3, 2);
        typeAll(x, "+-,-+");
        return x;
    }

    private static void type() {
        heading("Promise 9");
        sentence("Types a character behind the text", TextEdgeTests::typesBehind);
        sentence("character: any character", TextEdgeTests::anyCharacter);
        sentence("Returns the length of the text then", TextEdgeTests::lengthThen);
        sentence("FULL if it has 60 characters", TextEdgeTests::fullAtSixty);
        sentence("It is no act", TextEdgeTests::typeIsNoAct);
    }

    private static void typesBehind() {
        SwingWeights x = council(2, 2, 1);
        x.type('+');
        x.type('-');
        due("vote() of +-", x.vote(), 1);
        x.type(',');
        due("vote() of +-,", x.vote(), -103);
        x.type('-');
        x.type('+');
        due("vote() of +-,-+", x.vote(), 1);
        due("ballot(0, 0), the last one that was typed", x.ballot(0, 0), 0);
    }

    // Each is typed; which of them are signs, or "," between two ballots, vote() tells.
    private static void anyCharacter() {
        SwingWeights x = council(1, 1);
        for (char character : new char[] {0, 9, 10, 32, 127, 128, 233, 255, 256, 299, 301, 304, 32767, 32768, 65535}) {
            x.clearText();
            due("type(" + (int) character + ")", x.type(character), 1);
            due("vote() of " + (int) character, x.vote(), -100);
        }
        for (char character : new char[] {'+', '-', '0'}) {
            x.clearText();
            due("type(" + character + ")", x.type(character), 1);
            due("vote() of " + character, x.vote(), character == '+' ? 1 : 0);
        }
    }

    private static void lengthThen() {
        SwingWeights x = new SwingWeights();
        for (int length = 1; length <= 60; length++) {
            due("type", x.type((char) (length * 1000)), length);
            dueOfCount(x, 12, length);
        }
        x.clearText();
        due("type after clearText()", x.type('+'), 1);
    }

    private static void fullAtSixty() {
        SwingWeights x = council(1, 1);
        typeAll(x, THIRTY_BALLOTS);
        due("type, the 60th", x.type(','), 60);
        due("type, the 61st", x.type('+'), FULL);
        due("type, the 61st, a 0 character", x.type((char) 0), FULL);
        dueOfCount(x, 12, 60);
        due("vote(), as before", x.vote(), -160);
        x.clearText();
        due("type, when it is empty again", x.type('+'), 1);
    }

    private static void typeIsNoAct() {
        SwingWeights x = council(1, 1);
        x.type('+');
        dueOfCount(x, 11, 1);
        x.undo();
        dueOfCount(x, 0, 0);
        dueOfCount(x, 12, 1);
    }

    private static void clearText() {
        heading("Promise 10");
        sentence("Empties the text", TextEdgeTests::emptiesText);
        sentence("Returns the length that it had", TextEdgeTests::lengthThatItHad);
        sentence("It is no act", TextEdgeTests::clearTextIsNoAct);
    }

    private static void emptiesText() {
        SwingWeights x = two();
        x.clearText();
        dueOfCount(x, 12, 0);
        due("vote() of nothing", x.vote(), -100);
        x.type('-');
        due("vote() of -, with nothing left behind it", x.vote(), -101);
        x.type('+');
        due("vote() of -+", x.vote(), 0);
    }

    private static void lengthThatItHad() {
        SwingWeights x = council(1, 1);
        due("clearText() of nothing", x.clearText(), 0);
        x.type('x');
        due("clearText() of one", x.clearText(), 1);
        due("clearText() of nothing again", x.clearText(), 0);
        typeAll(x, THIRTY_BALLOTS);
        due("clearText() of 59", x.clearText(), 59);
        typeAll(x, THIRTY_BALLOTS + ",");
        due("clearText() of 60", x.clearText(), 60);
        typeAll(x, THIRTY_BALLOTS + ",+");
        due("clearText() of 60, as the 61st was refused", x.clearText(), 60);
    }

    private static void clearTextIsNoAct() {
        SwingWeights x = council(1, 1);
        x.type('+');
        x.clearText();
        dueOfCount(x, 11, 1);
    }

    private static void vote() {
        heading("Promise 11");
        sentence("Holds the ballots of the text", TextEdgeTests::holdsBallots);
        sentence("which stays", TextEdgeTests::textStays);
        sentence("one after the other", TextEdgeTests::oneAfterTheOther);
        sentence("This is one act", TextEdgeTests::oneActForAll);
        sentence("This is one act: the state before it", () -> isAct("vote()", TextEdgeTests::two, SwingWeights::vote, 1));
        sentence("Returns how many of them pass", TextEdgeTests::howManyPass);
        sentence("-100 minus the fault of the text if it has one", TextEdgeTests::minusFault);
        sentence("(which is an error)", TextEdgeTests::faultIsError);
    }

    private static void holdsBallots() {
        SwingWeights x = council(1, 1);
        dueOfVote(x, "0", 0);
        dueOfCount(x, 9, 1);
        dueOfVote(x, THIRTY_BALLOTS, 15);
        dueOfCount(x, 9, 31);
        dueOfCount(x, 10, 15);
        dueOfMembers(x, 11, 31);
    }

    private static void textStays() {
        SwingWeights x = two();
        due("vote()", x.vote(), 1);
        dueOfCount(x, 12, 5);
        due("vote() again", x.vote(), 1);
        dueOfCount(x, 9, 4);
        x.setWeight(1, 3);
        due("vote() of other weights", x.vote(), 2);
        due("clearText()", x.clearText(), 5);
    }

    private static void oneAfterTheOther() {
        SwingWeights x = council(4, 4, 2, 1);
        vote(x, "+--,-+-,--+,+++");
        dueOfBallot(x, 0, 1, 7, 0);
        dueOfBallot(x, 1, 0, 1, 0);
        dueOfBallot(x, 2, 0, 2, 0);
        dueOfBallot(x, 3, 1, 4, 0);
        due("ballot(4, 0)", x.ballot(4, 0), NONE);
    }

    private static void oneActForAll() {
        SwingWeights x = council(1, 1);
        vote(x, THIRTY_BALLOTS);
        dueOfCount(x, 11, 2);
        dueOfUndo(x, 1);
        dueOfCount(x, 9, 0);
        dueOfCount(x, 10, 0);
        dueOfMembers(x, 11, 0);
        due("ballot(0, 0)", x.ballot(0, 0), NONE);
    }

    private static void howManyPass() {
        SwingWeights x = council(3, 3, 2);
        dueOfVote(x, "-+", 0);
        dueOfCount(x, 11, 4);
        dueOfVote(x, "+-", 1);
        dueOfVote(x, "-+,--,00", 0);
        dueOfVote(x, "++,+-,+0", 3);
        dueOfCount(x, 10, 4);
        x.setQuota(6);
        dueOfVote(x, "++,++", 0);
        SwingWeights one = council(1, 1);
        dueOfVote(one, THIRTY_BALLOTS.replace('-', '+').replace('0', '+'), 30);
        dueOfVote(one, "-", 0);
    }

    private static void minusFault() {
        SwingWeights x = council(1, 1);
        dueOfVote(x, "", -100);
        dueOfVote(x, "?", -100);
        dueOfVote(x, "+?", -101);
        dueOfVote(x, "+,", -102);
        dueOfVote(x, THIRTY_BALLOTS + "?", -159);
        dueOfVote(x, THIRTY_BALLOTS + "+", -159);
        dueOfVote(x, THIRTY_BALLOTS + ",", -160);
    }

    private static void faultIsError() {
        SwingWeights x = council(1, 1);
        dueOfVote(x, "+,+,?", -104);
        dueOfCount(x, 9, 0);
        dueOfCount(x, 10, 0);
        dueOfCount(x, 11, 1);
        dueOfCount(x, 12, 5);
        dueOfMembers(x, 11, 0);
        due("ballot(0, 0)", x.ballot(0, 0), NONE);
    }

    private static void undo() {
        heading("Promise 12");
        sentence("Removes and restores the latest state of the history", TextEdgeTests::undoRestores);
        sentence("Returns the number of states that are left", TextEdgeTests::statesLeft);
        sentence("NONE if the history is empty", TextEdgeTests::undoOfNone);
        sentence("It is no act", TextEdgeTests::undoIsNoAct);
    }

    // Power that was asked for between two calls follows the state.
    private static void undoRestores() {
        SwingWeights x = council(4, 3, 2);
        dueOfCount(x, 4, 1);
        x.setWeight(0, 4);
        dueOfCount(x, 4, 2);
        x.setVeto(1, true);
        dueOfCount(x, 4, 1);
        x.undo();
        dueOfCount(x, 4, 2);
        x.undo();
        dueOfCount(x, 4, 1);
        dueOfMembers(x, 0, 3, 2);
        x.undo();
        dueOfCount(x, 2, 1);
        dueOfCount(x, 4, 3);
    }

    private static void statesLeft() {
        SwingWeights x = council(2, 1);
        dueOfUndo(x, 1);
        dueOfUndo(x, 0);
        SwingWeights ten = tenOf(1, 2);
        for (int left = 3; left >= 0; left--) {
            dueOfUndo(ten, left);
            dueOfCount(ten, 11, left);
        }
        dueOfUndo(ten, NONE);
        dueOfCount(ten, 0, 7);
    }

    private static void undoOfNone() {
        dueOfUndo(new SwingWeights(), NONE);
        SwingWeights x = council(1, 1);
        dueOfUndo(x, 0);
        dueOfUndo(x, NONE);
        dueOfUndo(x, NONE);
        x.addMember(2);
        dueOfUndo(x, 0);
        dueOfUndo(x, NONE);
    }

    private static void undoIsNoAct() {
        SwingWeights x = council(2, 5);
        dueOfUndo(x, 1);
        dueOfCount(x, 11, 1);
        dueOfUndo(x, 0);
        dueOfCount(x, 11, 0);
    }

    private static void keep() {
        heading("Promise 13");
        sentence("Takes a snapshot of the state", TextEdgeTests::takesSnapshot);
        sentence("in place of the one that was", TextEdgeTests::inPlaceOfOther);
        sentence("Returns how many members there are", TextEdgeTests::membersKept);
        sentence("It is no act", TextEdgeTests::keepIsNoAct);
    }

    // The snapshot is a copy: what is changed behind it does not change it.
    private static void takesSnapshot() {
        SwingWeights x = two();
        x.setVeto(1, true);
        x.vote();
        x.keep();
        SwingWeights twin = two();
        twin.setVeto(1, true);
        twin.vote();
        x.setWeight(0, 0);
        x.setVeto(0, true);
        x.join(0, 1);
        x.setQuota(1);
        x.vote();
        x.removeMember(0);
        x.addMember(9);
        x.restore();
        stateLooksTheSame("after restore()", x, twin);
    }

    private static void inPlaceOfOther() {
        SwingWeights x = council(1, 1, 2);
        x.keep();
        x.removeMember(0);
        x.keep();
        x.removeMember(0);
        due("restore()", x.restore(), 1);
        dueOfMembers(x, 0, 2);
        x.removeMember(0);
        due("keep() without members", x.keep(), 0);
        x.addMember(5);
        due("restore() without members", x.restore(), 0);
        dueOfCount(x, 0, 0);
    }

    private static void membersKept() {
        due("keep() of a new object", new SwingWeights().keep(), 0);
        due("keep() of one", council(1, 1).keep(), 1);
        due("keep() of ten", tenOf(1, 1).keep(), 10);
    }

    private static void keepIsNoAct() {
        SwingWeights x = council(1, 1);
        x.keep();
        x.keep();
        dueOfCount(x, 11, 1);
        dueOfUndo(x, 0);
        due("restore(), which undo() left", x.restore(), 1);
    }

    private static SwingWeights kept() {
        SwingWeights x = two();
        x.keep();
        x.setQuota(5);
        return x;
    }

    private static void restore() {
        heading("Promise 14");
        sentence("Restores the state of the snapshot", TextEdgeTests::restoresSnapshot);
        sentence("which stays", TextEdgeTests::snapshotStays);
        sentence("This is an act", () -> isAct("restore()", TextEdgeTests::kept, SwingWeights::restore, 2));
        sentence("This is an act, of the same state too", TextEdgeTests::restoreOfSame);
        sentence("Returns how many members there are then", TextEdgeTests::membersRestored);
        sentence("NONE if there is no snapshot", TextEdgeTests::noSnapshot);
    }

    private static void restoresSnapshot() {
        SwingWeights x = council(4, 3, 2);
        x.keep();
        x.setWeight(0, 4);
        dueOfCount(x, 4, 2);
        x.restore();
        dueOfCount(x, 4, 1);
        dueOfMembers(x, 0, 3, 2);
        x.addMember(9);
        x.addMember(9);
        x.restore();
        dueOfMembers(x, 0, 3, 2, UNKNOWN, UNKNOWN);
    }

    private static void snapshotStays() {
        SwingWeights x = council(4, 3, 2);
        x.keep();
        for (int times = 1; times <= 3; times++) {
            x.setWeight(0, 3 + times);
            due("restore()", x.restore(), 2);
            dueOfMembers(x, 0, 3, 2);
        }
        x.setWeight(1, 0);
        x.undo();
        x.undo();
        due("restore() after undo()", x.restore(), 2);
        dueOfMembers(x, 0, 3, 2);
    }

    private static void restoreOfSame() {
        SwingWeights x = council(1, 1);
        x.keep();
        due("restore()", x.restore(), 1);
        dueOfCount(x, 11, 2);
        due("restore()", x.restore(), 1);
        dueOfCount(x, 11, 3);
        dueOfUndo(x, 2);
        dueOfUndo(x, 1);
        dueOfUndo(x, 0);
        dueOfCount(x, 0, 0);
    }

    private static void membersRestored() {
        SwingWeights x = new SwingWeights();
        x.keep();
        x.addMember(1);
        due("restore() without members", x.restore(), 0);
        SwingWeights ten = tenOf(1, 1);
        ten.keep();
        ten.removeMember(0);
        due("restore() of ten", ten.restore(), 10);
        due("addMember(1) of ten", ten.addMember(1), FULL);
    }

    private static void noSnapshot() {
        SwingWeights x = new SwingWeights();
        due("restore()", x.restore(), NONE);
        x.addMember(1);
        due("restore()", x.restore(), NONE);
        dueOfCount(x, 11, 1);
        dueOfCount(x, 0, 1);
    }

    public static void main(String[] args) {
        type();
        clearText();
        vote();
        undo();
        keep();
        restore();
        end("TextEdgeTests");
    }
}
