// For each promise of the document the answers that are due: ordinary ones, at the edges, and to wrong inputs.
public final class PromiseTests {
    private static final int UNKNOWN = -1;
    private static final int BAD_VALUE = -2;
    private static final int FULL = -3;
    private static final int NONE = -5;
    private static final int[] FAR = {Integer.MIN_VALUE, -1000, -1, 1000, Integer.MAX_VALUE};

    private static int promise = 0;
    private static int right = 0;
    private static int wrong = 0;

    private static void due(String call, int got, int want) {
        if (got == want) {
            right++;
        } else {
            wrong++;
            System.out.println("promise " + promise + ": " + call + " answered " + got + ", due is " + want);
        }
    }

    private static SwingWeights council(int quota, int... weights) {
        SwingWeights x = new SwingWeights();
        for (int weight : weights) {
            x.addMember(weight);
        }
        if (quota != 1) {
            x.setQuota(quota);
        }
        return x;
    }

    private static void typeAll(SwingWeights x, String signs) {
        x.clearText();
        for (int i = 0; i < signs.length(); i++) {
            x.type(signs.charAt(i));
        }
    }

    private static int vote(SwingWeights x, String signs) {
        typeAll(x, signs);
        return x.vote();
    }

    // what members 0, 1, 2 .. answer, as far as there are answers due
    private static void dueOfMembers(SwingWeights x, int what, int... wants) {
        for (int m = 0; m < wants.length; m++) {
            due("member(" + m + ", " + what + ")", x.member(m, what), wants[m]);
        }
    }

    private static void dueOfCounts(SwingWeights x, int... wants) {
        for (int what = 0; what < wants.length; what++) {
            due("count(" + what + ")", x.count(what), wants[what]);
        }
    }

    private static void newObject() {
        promise = 1;
        SwingWeights x = new SwingWeights();
        dueOfCounts(x, 0, 0, 1, 0, 0, 0, 0, 0, 0, 0, 0, 0, 0);
        due("member(0, 0)", x.member(0, 0), UNKNOWN);
        due("wins(0)", x.wins(0), 0);
        due("wins(1)", x.wins(1), BAD_VALUE);
        due("leastCoalition(0, 0)", x.leastCoalition(0, 0), NONE);
        due("ranked(0)", x.ranked(0), NONE);
        due("fairest()", x.fairest(), NONE);
        due("ballot(0, 0)", x.ballot(0, 0), NONE);
        due("undo()", x.undo(), NONE);
        due("restore()", x.restore(), NONE);
        due("vote()", x.vote(), -100);
        due("clearText()", x.clearText(), 0);
        due("keep()", x.keep(), 0);
        for (int what = 0; what <= 3; what++) {
            due("withQuota(1, " + what + ")", x.withQuota(1, what), 0);
        }
        due("UNKNOWN", SwingWeights.UNKNOWN, -1);
        due("BAD_VALUE", SwingWeights.BAD_VALUE, -2);
        due("FULL", SwingWeights.FULL, -3);
        due("NOT_POSSIBLE", SwingWeights.NOT_POSSIBLE, -4);
        due("NONE", SwingWeights.NONE, -5);
    }

    private static void addMember() {
        promise = 2;
        SwingWeights x = new SwingWeights();
        due("addMember(0)", x.addMember(0), 0);
        due("addMember(50)", x.addMember(50), 1);
        due("addMember(51)", x.addMember(51), BAD_VALUE);
        due("addMember(-1)", x.addMember(-1), BAD_VALUE);
        for (int far : FAR) {
            due("addMember(" + far + ")", x.addMember(far), BAD_VALUE);
        }
        due("count(11)", x.count(11), 2);
        dueOfMembers(x, 0, 0, 50, UNKNOWN);
        dueOfMembers(x, 1, 0, 0);
        dueOfMembers(x, 2, 0, 1);
        for (int m = 2; m < 10; m++) {
            due("addMember(" + m + ")", x.addMember(m), m);
        }
        due("addMember(1) at 10", x.addMember(1), FULL);
        due("addMember(51) at 10", x.addMember(51), BAD_VALUE);
        due("count(0)", x.count(0), 10);
        due("undo()", x.undo(), 3);
        due("count(0) after undo", x.count(0), 9);
        due("addMember(9) again", x.addMember(9), 9);

        SwingWeights y = council(3, 3, 3);
        y.setVeto(1, true);
        y.join(0, 1);
        vote(y, "++");
        y.removeMember(1);
        due("addMember(7)", y.addMember(7), 1);
        due("weight", y.member(1, 0), 7);
        due("veto", y.member(1, 1), 0);
        due("bloc", y.member(1, 2), 1);
        due("swing ballots", y.member(1, 11), 0);
    }

    private static void removeMember() {
        promise = 3;
        SwingWeights x = council(5, 1, 2, 3, 4, 5);
        for (int far : FAR) {
            due("removeMember(" + far + ")", x.removeMember(far), UNKNOWN);
        }
        due("removeMember(5)", x.removeMember(5), UNKNOWN);
        x.setVeto(0, true);
        x.setVeto(3, true);
        x.join(1, 3);
        x.join(3, 4);
        due("removeMember(1)", x.removeMember(1), 4);
        dueOfMembers(x, 0, 1, 3, 4, 5, UNKNOWN);
        dueOfMembers(x, 1, 1, 0, 1, 0, UNKNOWN);
        dueOfMembers(x, 2, 0, 1, 2, 2, UNKNOWN);
        dueOfMembers(x, 3, 1, 3, 9, 9, UNKNOWN);
        due("count(8)", x.count(8), 2);
        due("removeMember(2)", x.removeMember(2), 3);
        due("count(8)", x.count(8), 1);
        dueOfMembers(x, 0, 1, 3, 5, UNKNOWN);
        dueOfMembers(x, 2, 0, 1, 2, UNKNOWN);
        due("undo()", x.undo(), 3);
        dueOfMembers(x, 0, 1, 3, 4, 5);
        dueOfMembers(x, 2, 0, 1, 2, 2);
        due("undo()", x.undo(), 2);
        dueOfMembers(x, 2, 0, 1, 2, 1, 1);
        due("removeMember(4)", x.removeMember(4), 4);
        dueOfMembers(x, 2, 0, 1, 2, 1, UNKNOWN);

        SwingWeights y = council(4, 5, 1, 5);
        vote(y, "++-,---");
        dueOfMembers(y, 11, 2, 0, 1);
        y.join(0, 2);
        y.removeMember(1);
        dueOfMembers(y, 2, 0, 0, UNKNOWN);
        dueOfMembers(y, 3, 10, 10, UNKNOWN);
        y.undo();
        y.undo();
        y.removeMember(0);
        dueOfMembers(y, 3, 1, 5, UNKNOWN);
        dueOfMembers(y, 11, 0, 1, UNKNOWN);
        due("count(9)", y.count(9), 2);
        due("ballot(1, 1)", y.ballot(1, 1), 6);
        y.removeMember(0);
        due("removeMember(0), the last", y.removeMember(0), 0);
        due("removeMember(0), none there", y.removeMember(0), UNKNOWN);
    }

    private static void setWeight() {
        promise = 4;
        SwingWeights x = council(6, 4, 3);
        due("setWeight(2, 1)", x.setWeight(2, 1), UNKNOWN);
        due("setWeight(-1, 51)", x.setWeight(-1, 51), UNKNOWN);
        due("setWeight(0, 51)", x.setWeight(0, 51), BAD_VALUE);
        due("setWeight(0, -1)", x.setWeight(0, -1), BAD_VALUE);
        due("setWeight(0, 4)", x.setWeight(0, 4), NONE);
        due("count(11)", x.count(11), 3);
        due("count(4)", x.count(4), 1);
        due("setWeight(0, 50)", x.setWeight(0, 50), 4);
        due("count(11)", x.count(11), 4);
        due("count(4)", x.count(4), 2);
        due("setWeight(0, 0)", x.setWeight(0, 0), 50);
        dueOfMembers(x, 0, 0, 3);
        due("count(3)", x.count(3), 3);
        due("undo()", x.undo(), 3);
        dueOfMembers(x, 0, 50, 3);
    }

    private static void setVeto() {
        promise = 5;
        SwingWeights x = council(5, 5, 5, 5);
        due("setVeto(3, true)", x.setVeto(3, true), UNKNOWN);
        due("setVeto(-1, false)", x.setVeto(-1, false), UNKNOWN);
        due("setVeto(0, false)", x.setVeto(0, false), NONE);
        due("count(11)", x.count(11), 4);
        due("count(4)", x.count(4), 7);
        due("setVeto(2, true)", x.setVeto(2, true), 1);
        due("setVeto(2, true)", x.setVeto(2, true), NONE);
        due("count(4)", x.count(4), 4);
        due("setVeto(0, true)", x.setVeto(0, true), 2);
        dueOfMembers(x, 1, 1, 0, 1);
        due("count(4)", x.count(4), 2);
        due("setVeto(2, false)", x.setVeto(2, false), 1);
        due("setVeto(0, false)", x.setVeto(0, false), 0);
        due("setVeto(0, false)", x.setVeto(0, false), NONE);
        due("undo()", x.undo(), 3);
        dueOfMembers(x, 1, 1, 0, 0);
    }

    private static void setQuota() {
        promise = 6;
        SwingWeights x = council(1, 4, 3);
        due("setQuota(0)", x.setQuota(0), BAD_VALUE);
        due("setQuota(501)", x.setQuota(501), BAD_VALUE);
        for (int far : FAR) {
            due("setQuota(" + far + ")", x.setQuota(far), BAD_VALUE);
        }
        due("setQuota(1)", x.setQuota(1), NONE);
        due("count(11)", x.count(11), 2);
        due("count(4)", x.count(4), 3);
        due("setQuota(500)", x.setQuota(500), 1);
        due("count(4)", x.count(4), 0);
        due("setQuota(7)", x.setQuota(7), 500);
        due("count(4)", x.count(4), 1);
        due("count(2)", x.count(2), 7);
        due("undo()", x.undo(), 3);
        due("count(2)", x.count(2), 500);
        due("setQuota(500)", x.setQuota(500), NONE);
    }

    private static void join() {
        promise = 7;
        SwingWeights x = council(6, 4, 3, 2, 1);
        due("join(4, 0)", x.join(4, 0), UNKNOWN);
        due("join(0, 4)", x.join(0, 4), UNKNOWN);
        due("join(-1, 0)", x.join(-1, 0), UNKNOWN);
        due("join(0, -1)", x.join(0, -1), UNKNOWN);
        due("join(5, 5)", x.join(5, 5), UNKNOWN);
        due("join(2, 2)", x.join(2, 2), NONE);
        due("count(4)", x.count(4), 7);
        due("join(3, 1)", x.join(3, 1), 2);
        due("join(1, 3)", x.join(1, 3), NONE);
        due("count(4)", x.count(4), 4);
        dueOfMembers(x, 2, 0, 1, 2, 1);
        dueOfMembers(x, 3, 4, 4, 2, 4);
        due("join(2, 0)", x.join(2, 0), 2);
        dueOfMembers(x, 2, 0, 1, 0, 1);
        due("join(3, 2)", x.join(3, 2), 4);
        dueOfMembers(x, 2, 0, 0, 0, 0);
        dueOfMembers(x, 3, 10, 10, 10, 10);
        due("join(0, 3)", x.join(0, 3), NONE);
        due("count(11)", x.count(11), 4);
        due("undo()", x.undo(), 3);
        dueOfMembers(x, 2, 0, 1, 0, 1);
    }

    private static void leave() {
        promise = 8;
        SwingWeights x = council(6, 4, 3, 2, 1);
        due("leave(4)", x.leave(4), UNKNOWN);
        due("leave(-1)", x.leave(-1), UNKNOWN);
        due("leave(0)", x.leave(0), NONE);
        x.join(0, 1);
        x.join(1, 3);
        due("leave(2)", x.leave(2), NONE);
        due("count(4)", x.count(4), 2);
        due("leave(0)", x.leave(0), 2);
        due("count(4)", x.count(4), 4);
        dueOfMembers(x, 2, 0, 1, 2, 1);
        dueOfMembers(x, 3, 4, 4, 2, 4);
        due("leave(0)", x.leave(0), NONE);
        due("leave(3)", x.leave(3), 1);
        dueOfMembers(x, 2, 0, 1, 2, 3);
        due("leave(1)", x.leave(1), NONE);
        due("count(11)", x.count(11), 4);
        due("undo()", x.undo(), 3);
        dueOfMembers(x, 2, 0, 1, 2, 1);
        due("leave(1)", x.leave(1), 1);
        dueOfMembers(x, 2, 0, 1, 2, 3);
    }

    private static void type() {
        promise = 9;
        SwingWeights x = council(1, 1);
        char[] any = {'+', (char) 0, (char) 233, (char) 65535, ' '};
        for (int i = 0; i < any.length; i++) {
            due("type(" + (int) any[i] + ")", x.type(any[i]), i + 1);
        }
        for (int i = any.length; i < 60; i++) {
            due("type", x.type('-'), i + 1);
        }
        due("type at 60", x.type('+'), FULL);
        due("count(12)", x.count(12), 60);
        due("count(11)", x.count(11), 1);
        x.clearText();
        for (int i = 0; i < 60; i++) {
            due("type again", x.type(i % 2 == 0 ? '+' : ','), i + 1);
        }
        due("type at 60", x.type('+'), FULL);
        due("vote()", x.vote(), -160);
        due("undo()", x.undo(), 0);
        due("count(12), which undo leaves", x.count(12), 60);
    }

    private static void clearText() {
        promise = 10;
        SwingWeights x = council(1, 1);
        due("clearText()", x.clearText(), 0);
        typeAll(x, "-,+");
        due("clearText()", x.clearText(), 3);
        due("clearText()", x.clearText(), 0);
        due("count(12)", x.count(12), 0);
        due("vote()", x.vote(), -100);
        x.type('+');
        due("vote()", x.vote(), 1);
        due("count(11)", x.count(11), 2);
    }

    private static void faults() {
        promise = 11;
        SwingWeights x = council(5, 3, 2);
        String[] texts = {"", "+", "++-", "++,", "++,-", "++,-+,", ",", "+,", "x", "+x", "++x", "++,x", "+++", "++,,",
            " ++", "++;++", "+1", (char) 299 + "+", "++,+0,0", "++,+0,00,x"};
        int[] wants = {0, 1, 2, 3, 4, 6, 0, 1, 0, 1, 2, 3, 2, 3, 0, 2, 1, 0, 7, 9};
        for (int i = 0; i < texts.length; i++) {
            due("vote() of " + texts[i], vote(x, texts[i]), -100 - wants[i]);
        }
        due("count(9)", x.count(9), 0);
        due("count(11)", x.count(11), 3);
        SwingWeights empty = new SwingWeights();
        due("vote() without members", vote(empty, "+"), -100);
        due("vote() without members", vote(empty, ""), -100);
        due("vote() without members", vote(empty, ","), -100);
        SwingWeights ten = council(1, 1, 1, 1, 1, 1, 1, 1, 1, 1, 1);
        StringBuilder six = new StringBuilder();
        for (int i = 0; i < 6; i++) {
            six.append("+-0+-0+-0+,");
        }
        due("vote() of 60 characters", vote(ten, six.toString()), -160);
        due("vote() of 54 characters", vote(ten, six.substring(0, 54)), 5);
    }

    private static void vote() {
        faults();
        SwingWeights x = council(5, 3, 2);
        due("vote()", vote(x, "++"), 1);
        due("vote() again", x.vote(), 1);
        due("count(12), which stays", x.count(12), 2);
        due("vote()", vote(x, "++,+-,-+,00,++"), 2);
        due("count(9)", x.count(9), 7);
        due("count(10)", x.count(10), 4);
        due("vote()", vote(x, "+-"), 0);
        due("count(9)", x.count(9), 8);
        due("undo()", x.undo(), 3);
        due("count(9)", x.count(9), 7);
        due("undo()", x.undo(), 2);
        due("count(9), one act for five", x.count(9), 2);
        due("count(10)", x.count(10), 2);

        SwingWeights y = council(4, 2, 2, 3);
        y.join(0, 1);
        due("the leader is the lower one", vote(y, "+-0"), 1);
        due("the leader is the lower one", vote(y, "-+0"), 0);
        y.setWeight(1, 3);
        due("the leader is the heavier one", vote(y, "+-+"), 0);
        due("the leader is the heavier one", vote(y, "-+-"), 1);
        y.setVeto(2, true);
        due("a veto", vote(y, "-+-"), 0);
        due("a veto", vote(y, "-+0"), 0);
        due("a veto", vote(y, "-++"), 1);
        SwingWeights z = council(1, 1);
        due("30 ballots", vote(z, "+,-,+,-,+,-,+,-,+,-,+,-,+,-,+,-,+,-,+,-,+,-,+,-,+,-,+,-,+,0"), 15);
        due("count(9)", z.count(9), 30);
    }

    private static void undo() {
        promise = 12;
        SwingWeights x = council(1, 1, 2, 3, 4, 5, 6);
        due("count(11)", x.count(11), 4);
        due("undo()", x.undo(), 3);
        due("undo()", x.undo(), 2);
        due("undo()", x.undo(), 1);
        due("undo()", x.undo(), 0);
        due("undo()", x.undo(), NONE);
        due("count(0)", x.count(0), 2);
        due("count(3)", x.count(3), 3);
        due("count(4)", x.count(4), 3);
        x.setVeto(0, true);
        x.join(0, 1);
        x.setWeight(1, 9);
        due("undo()", x.undo(), 2);
        dueOfMembers(x, 0, 1, 2);
        dueOfMembers(x, 2, 0, 0);
        due("undo()", x.undo(), 1);
        dueOfMembers(x, 2, 0, 1);
        due("count(4)", x.count(4), 2);
        x.addMember(7);
        due("undo()", x.undo(), 1);
        due("undo()", x.undo(), 0);
        dueOfMembers(x, 1, 0, 0);
        due("count(4)", x.count(4), 3);
        due("setWeight(0, 0)", x.setWeight(0, 0), 1);
        due("count(4) before undo", x.count(4), 2);
        due("undo()", x.undo(), 0);
        due("count(4) after undo", x.count(4), 3);
        undoOfBallots();
    }

    private static void undoOfBallots() {
        SwingWeights x = council(3, 3, 1);
        vote(x, "+-,-+");
        dueOfMembers(x, 11, 2, 0);
        due("ballot(0, 0)", x.ballot(0, 0), 0);
        x.undo();
        due("addMember(0)", x.addMember(0), 2);
        x.join(0, 2);
        vote(x, "+-+,-++");
        vote(x, "++-,--0,+-+");
        dueOfMembers(x, 11, 5, 0, 5);
        due("ballot(0, 0)", x.ballot(0, 0), 1);
        due("ballot(1, 2)", x.ballot(1, 2), 1);
        due("ballot(0, 1)", x.ballot(0, 1), 3);
        due("ballot(2, 1)", x.ballot(2, 1), 4);
        x.type('?');
        x.keep();
        due("undo()", x.undo(), 3);
        dueOfMembers(x, 11, 2, 0, 2);
        int[][] wants = {{0, 1, 1}, {1, 3, 0}, {NONE, NONE, NONE}};
        for (int back = 0; back < wants.length; back++) {
            for (int what = 0; what < 3; what++) {
                due("ballot(" + back + ", " + what + ")", x.ballot(back, what), wants[back][what]);
            }
        }
        due("count(12)", x.count(12), 12);
        due("restore(), as the snapshot is no state", x.restore(), 3);
        due("ballot(2, 1)", x.ballot(2, 1), 4);
        due("ballot(2, 2)", x.ballot(2, 2), 1);
        due("count(11)", x.count(11), 4);
    }

    private static void keepAndRestore() {
        SwingWeights x = council(3, 3, 1);
        promise = 14;
        due("restore()", x.restore(), NONE);
        due("count(11)", x.count(11), 3);
        promise = 13;
        due("keep()", x.keep(), 2);
        due("count(11)", x.count(11), 3);
        x.addMember(2);
        x.setQuota(6);
        x.setVeto(0, true);
        x.join(1, 2);
        vote(x, "+++");
        due("count(4)", x.count(4), 1);
        promise = 14;
        due("restore()", x.restore(), 2);
        due("count(11)", x.count(11), 4);
        dueOfCounts(x, 2, 2, 3, 4, 2, 1, 2, 1, 0, 0, 0, 4, 3);
        due("restore() again, an act", x.restore(), 2);
        due("undo()", x.undo(), 3);
        due("count(0)", x.count(0), 2);
        due("undo()", x.undo(), 2);
        dueOfCounts(x, 3, 2, 6, 6, 1, 1, 2, 0, 1, 1, 1, 2, 3);
        promise = 13;
        due("keep()", x.keep(), 3);
        x.removeMember(0);
        x.removeMember(0);
        promise = 14;
        due("restore()", x.restore(), 3);
        dueOfMembers(x, 0, 3, 1, 2);
        dueOfMembers(x, 1, 1, 0, 0);
        dueOfMembers(x, 2, 0, 1, 1);
        dueOfMembers(x, 11, 1, 1, 1);
        x.setWeight(0, 9);
        due("restore(), which stays", x.restore(), 3);
        dueOfMembers(x, 0, 3, 1, 2);
    }

    private static void member() {
        promise = 15;
        SwingWeights x = council(6, 4, 3, 2, 1);
        dueOfMembers(x, 0, 4, 3, 2, 1, UNKNOWN);
        dueOfMembers(x, 5, 5, 3, 3, 1, UNKNOWN);
        dueOfMembers(x, 6, 10, 6, 6, 2, UNKNOWN);
        dueOfMembers(x, 7, 0, 0, 0, 0);
        dueOfMembers(x, 8, 0, 0, 0, 0);
        dueOfMembers(x, 9, 0, 0, 0, 0);
        dueOfMembers(x, 10, 0, 1, 2, 3);
        due("member(0, 12)", x.member(0, 12), BAD_VALUE);
        due("member(0, -1)", x.member(0, -1), BAD_VALUE);
        for (int far : FAR) {
            due("member(0, " + far + ")", x.member(0, far), BAD_VALUE);
            due("member(" + far + ", 0)", x.member(far, 0), UNKNOWN);
            due("member(" + far + ", 99)", x.member(far, 99), UNKNOWN);
        }
        x.setVeto(3, true);
        dueOfMembers(x, 5, 2, 2, 2, 4);
        dueOfMembers(x, 6, 4, 4, 4, 12);
        dueOfMembers(x, 8, 0, 0, 0, 1);
        x.join(3, 1);
        dueOfMembers(x, 1, 0, 0, 0, 1);
        dueOfMembers(x, 2, 0, 1, 2, 1);
        dueOfMembers(x, 3, 4, 4, 2, 4);
        dueOfMembers(x, 4, 0, 1, 2, 1);
        dueOfMembers(x, 5, 1, 3, 1, 3);
        dueOfMembers(x, 6, 1, 4, 1, 4);
        dueOfMembers(x, 8, 0, 1, 0, 1);
        dueOfMembers(x, 10, 2, 0, 3, 1);
        memberDictator();
        memberLeader();
        memberRank();
        memberSwingBallots();
        memberOfTen();
    }

    private static void memberDictator() {
        SwingWeights x = council(5, 5, 3, 1);
        dueOfMembers(x, 7, 0, 1, 1);
        dueOfMembers(x, 8, 1, 0, 0);
        dueOfMembers(x, 9, 1, 0, 0);
        x.join(1, 2);
        dueOfMembers(x, 9, 1, 0, 0);
        x.setWeight(2, 2);
        dueOfMembers(x, 7, 0, 0, 0);
        dueOfMembers(x, 8, 0, 0, 0);
        dueOfMembers(x, 9, 0, 0, 0);
        x.setVeto(1, true);
        dueOfMembers(x, 7, 1, 0, 0);
        dueOfMembers(x, 9, 0, 1, 1);
        x.setVeto(0, true);
        dueOfMembers(x, 7, 0, 0, 0);
        dueOfMembers(x, 8, 1, 1, 1);
        dueOfMembers(x, 9, 0, 0, 0);
        x.setQuota(11);
        dueOfMembers(x, 7, 1, 1, 1);
        dueOfMembers(x, 8, 0, 0, 0);
        SwingWeights one = council(1, 0);
        dueOfMembers(one, 7, 1);
        dueOfMembers(one, 9, 0);
        one.setWeight(0, 1);
        dueOfMembers(one, 7, 0);
        dueOfMembers(one, 8, 1);
        dueOfMembers(one, 9, 1);
    }

    private static void memberLeader() {
        SwingWeights x = council(1, 2, 5, 5, 1, 7);
        dueOfMembers(x, 4, 0, 1, 2, 3, 4);
        x.join(0, 1);
        x.join(2, 0);
        x.join(3, 2);
        dueOfMembers(x, 2, 0, 0, 0, 0, 4);
        dueOfMembers(x, 4, 1, 1, 1, 1, 4);
        x.setWeight(3, 6);
        dueOfMembers(x, 4, 3, 3, 3, 3, 4);
        x.setWeight(0, 6);
        dueOfMembers(x, 4, 0, 0, 0, 0, 4);
    }

    private static void memberRank() {
        SwingWeights x = council(4, 1, 2, 3, 2, 0);
        dueOfMembers(x, 5, 2, 6, 10, 6, 0);
        dueOfMembers(x, 10, 3, 1, 0, 2, 4);
        x.join(4, 0);
        x.setWeight(4, 3);
        dueOfMembers(x, 5, 4, 2, 2, 2, 4);
        dueOfMembers(x, 10, 1, 3, 2, 4, 0);
    }

    private static void memberSwingBallots() {
        SwingWeights x = council(6, 4, 3, 2, 1);
        vote(x, "++--");
        dueOfMembers(x, 11, 1, 1, 0, 0);
        vote(x, "+--0");
        dueOfMembers(x, 11, 1, 2, 1, 0);
        vote(x, "++++,----");
        dueOfMembers(x, 11, 1, 2, 1, 0);
        x.join(3, 0);
        vote(x, "0+-+");
        dueOfMembers(x, 11, 2, 2, 1, 1);
        x.setVeto(2, true);
        vote(x, "+++-");
        dueOfMembers(x, 11, 3, 2, 2, 2);
        x.leave(0);
        dueOfMembers(x, 11, 3, 2, 2, 2);
        x.addMember(9);
        dueOfMembers(x, 11, 3, 2, 2, 2, 0);
    }

    private static void memberOfTen() {
        SwingWeights x = council(5, 1, 1, 1, 1, 1, 1, 1, 1, 1, 1);
        dueOfMembers(x, 5, 126, 126, 126, 126, 126, 126, 126, 126, 126, 126);
        dueOfMembers(x, 6, 362880, 362880, 362880, 362880, 362880, 362880, 362880, 362880, 362880, 362880);
        x.setQuota(500);
        dueOfMembers(x, 5, 0, 0);
        dueOfMembers(x, 6, 0, 0);
        x.setQuota(1);
        dueOfMembers(x, 5, 1, 1);
        SwingWeights heavy = council(500, 50, 50, 50, 50, 50, 50, 50, 50, 50, 50);
        dueOfMembers(heavy, 5, 1, 1, 1, 1, 1, 1, 1, 1, 1, 1);
        dueOfMembers(heavy, 8, 1, 1, 1, 1, 1, 1, 1, 1, 1, 1);
        SwingWeights sole = council(50, 50, 0, 0, 0, 0, 0, 0, 0, 0, 0);
        dueOfMembers(sole, 5, 512, 0);
        dueOfMembers(sole, 6, 3628800, 0);
    }

    private static void dueOfShares(SwingWeights x, int member, int... wants) {
        for (int what = 0; what < wants.length; what++) {
            due("share(" + member + ", " + what + ")", x.share(member, what), wants[what]);
        }
    }

    private static void share() {
        promise = 16;
        SwingWeights x = council(6, 4, 3, 2, 1);
        dueOfShares(x, 0, 5, 12, 5, 12, BAD_VALUE);
        dueOfShares(x, 1, 1, 4, 1, 4);
        dueOfShares(x, 2, 1, 4, 1, 4);
        dueOfShares(x, 3, 1, 12, 1, 12);
        dueOfShares(x, 4, UNKNOWN, UNKNOWN, UNKNOWN, UNKNOWN, UNKNOWN);
        due("share(-1, 9)", x.share(-1, 9), UNKNOWN);
        due("share(0, -1)", x.share(0, -1), BAD_VALUE);
        x.join(2, 3);
        dueOfShares(x, 3, 1, 3, 1, 3);
        x.setVeto(2, true);
        dueOfShares(x, 0, 1, 5, 1, 6);
        dueOfShares(x, 3, 3, 5, 2, 3);
        x.setQuota(3);
        dueOfShares(x, 0, 0, 1, 0, 1);
        dueOfShares(x, 2, 1, 1, 1, 1);
        x.setQuota(11);
        dueOfShares(x, 0, NONE, NONE, NONE, NONE, BAD_VALUE);
        dueOfShares(x, 4, UNKNOWN);
        due("share(0, -1)", x.share(0, -1), BAD_VALUE);
        dueOfShares(council(5, 1, 1, 1, 1, 1, 1, 1, 1, 1, 1), 9, 1, 10, 1, 10);
        dueOfShares(council(50, 50, 0, 0, 0, 0, 0, 0, 0, 0, 0), 0, 1, 1, 1, 1);
    }

    private static void wins() {
        promise = 17;
        SwingWeights x = council(6, 4, 3, 2, 1);
        int[] wants = {0, 0, 0, 1, 0, 1, 0, 1, 0, 0, 0, 1, 0, 1, 1, 1};
        for (int set = 0; set < wants.length; set++) {
            due("wins(" + set + ")", x.wins(set), wants[set]);
        }
        due("wins(16)", x.wins(16), BAD_VALUE);
        due("wins(31)", x.wins(31), BAD_VALUE);
        for (int far : FAR) {
            due("wins(" + far + ")", x.wins(far), BAD_VALUE);
        }
        x.join(3, 1);
        due("wins(3), where 1 is not whole", x.wins(3), 0);
        due("wins(11)", x.wins(11), 1);
        due("wins(14)", x.wins(14), 1);
        due("wins(5)", x.wins(5), 1);
        due("wins(7)", x.wins(7), 1);
        x.setVeto(3, true);
        due("wins(5), without the veto", x.wins(5), 0);
        due("wins(7), without the whole bloc", x.wins(7), 0);
        due("wins(11)", x.wins(11), 1);
        SwingWeights ten = council(10, 1, 1, 1, 1, 1, 1, 1, 1, 1, 1);
        due("wins(1023)", ten.wins(1023), 1);
        due("wins(1022)", ten.wins(1022), 0);
        due("wins(1024)", ten.wins(1024), BAD_VALUE);
    }

    private static void dueOfLeast(SwingWeights x, int... wants) {
        for (int rank = 0; 3 * rank < wants.length; rank++) {
            for (int what = 0; what < 3; what++) {
                due("leastCoalition(" + rank + ", " + what + ")", x.leastCoalition(rank, what), wants[3 * rank + what]);
            }
        }
        due("leastCoalition behind the last", x.leastCoalition(wants.length / 3, 0), NONE);
    }

    private static void leastCoalition() {
        promise = 18;
        SwingWeights x = council(6, 4, 3, 2, 1);
        dueOfLeast(x, 5, 2, 6, 3, 2, 7, 14, 3, 6);
        due("leastCoalition(-1, 0)", x.leastCoalition(-1, 0), BAD_VALUE);
        due("leastCoalition(0, 3)", x.leastCoalition(0, 3), BAD_VALUE);
        due("leastCoalition(0, -1)", x.leastCoalition(0, -1), BAD_VALUE);
        due("leastCoalition(9, 3)", x.leastCoalition(9, 3), BAD_VALUE);
        due("leastCoalition(far, 0)", x.leastCoalition(Integer.MAX_VALUE, 0), NONE);
        due("leastCoalition(far, 0)", x.leastCoalition(Integer.MIN_VALUE, 0), BAD_VALUE);
        x.join(1, 3);
        dueOfLeast(x, 5, 2, 6, 14, 2, 6, 11, 2, 8);
        x.setVeto(3, true);
        dueOfLeast(x, 14, 2, 6, 11, 2, 8);
        x.setQuota(1);
        dueOfLeast(x, 10, 1, 4);
        x.setQuota(11);
        dueOfLeast(x);
        SwingWeights same = council(2, 1, 1, 1, 0);
        dueOfLeast(same, 3, 2, 2, 5, 2, 2, 6, 2, 2);
        SwingWeights ten = council(5, 1, 1, 1, 1, 1, 1, 1, 1, 1, 1);
        due("leastCoalition(0, 0)", ten.leastCoalition(0, 0), 31);
        due("leastCoalition(251, 0)", ten.leastCoalition(251, 0), 992);
        due("leastCoalition(251, 1)", ten.leastCoalition(251, 1), 5);
        due("leastCoalition(252, 0)", ten.leastCoalition(252, 0), NONE);
        SwingWeights heavy = council(500, 50, 50, 50, 50, 50, 50, 50, 50, 50, 50);
        dueOfLeast(heavy, 1023, 10, 500);
        SwingWeights zero = council(3, 0, 3, 0);
        zero.setVeto(0, true);
        dueOfLeast(zero, 3, 2, 3);
    }

    private static void ranked() {
        promise = 19;
        SwingWeights x = council(4, 1, 2, 3, 2, 0);
        int[] wants = {2, 1, 3, 0, 4, NONE, NONE};
        for (int rank = 0; rank < wants.length; rank++) {
            due("ranked(" + rank + ")", x.ranked(rank), wants[rank]);
        }
        due("ranked(-1)", x.ranked(-1), BAD_VALUE);
        due("ranked(far)", x.ranked(Integer.MIN_VALUE), BAD_VALUE);
        due("ranked(far)", x.ranked(Integer.MAX_VALUE), NONE);
        x.setQuota(500);
        int[] byWeight = {2, 1, 3, 0, 4};
        for (int rank = 0; rank < byWeight.length; rank++) {
            due("ranked(" + rank + ")", x.ranked(rank), byWeight[rank]);
        }
        x.setQuota(4);
        x.setVeto(4, true);
        due("ranked(0), a veto", x.ranked(0), 4);
    }

    private static void withQuota() {
        promise = 20;
        SwingWeights x = council(6, 4, 3, 2, 1);
        int[][] wants = {{1, 0, 0, 4, 15}, {2, 1, 0, 6, 14}, {6, 0, 0, 12, 7}, {7, 0, 1, 10, 5}, {10, 0, 4, 4, 1},
            {11, 4, 0, 0, 0}, {500, 4, 0, 0, 0}};
        for (int[] want : wants) {
            for (int what = 0; what <= 3; what++) {
                due("withQuota(" + want[0] + ", " + what + ")", x.withQuota(want[0], what), want[what + 1]);
            }
        }
        due("withQuota(0, 0)", x.withQuota(0, 0), BAD_VALUE);
        due("withQuota(501, 0)", x.withQuota(501, 0), BAD_VALUE);
        due("withQuota(6, -1)", x.withQuota(6, -1), BAD_VALUE);
        due("withQuota(6, 4)", x.withQuota(6, 4), BAD_VALUE);
        due("count(2), which stays", x.count(2), 6);
        x.join(0, 1);
        x.setVeto(3, true);
        due("withQuota(8, 0)", x.withQuota(8, 0), 1);
        due("withQuota(8, 1)", x.withQuota(8, 1), 2);
        due("withQuota(8, 2)", x.withQuota(8, 2), 4);
        due("withQuota(8, 3)", x.withQuota(8, 3), 2);
    }

    private static void leavesOut() {
        promise = 21;
        SwingWeights x = council(6, 4, 3, 2, 1);
        due("leavesOut(3, 1)", x.leavesOut(3, 1), 2);
        due("leavesOut(3, 2)", x.leavesOut(3, 2), 2);
        due("leavesOut(3, 3)", x.leavesOut(3, 3), 9);
        due("leavesOut(3, 8)", x.leavesOut(3, 8), 9);
        due("leavesOut(3, 10)", x.leavesOut(3, 10), NONE);
        due("leavesOut(3, 500)", x.leavesOut(3, 500), NONE);
        due("leavesOut(0, 1)", x.leavesOut(0, 1), NONE);
        due("leavesOut(4, 0)", x.leavesOut(4, 0), UNKNOWN);
        due("leavesOut(-1, 1)", x.leavesOut(-1, 1), UNKNOWN);
        due("leavesOut(0, 0)", x.leavesOut(0, 0), BAD_VALUE);
        due("leavesOut(0, 501)", x.leavesOut(0, 501), BAD_VALUE);
        SwingWeights y = council(1, 0, 5);
        due("leavesOut(0, 5), the sum", y.leavesOut(0, 5), 5);
        due("leavesOut(0, 6), above the sum", y.leavesOut(0, 6), NONE);
        y.join(0, 1);
        due("leavesOut(0, 1), in a bloc", y.leavesOut(0, 1), NONE);
        y.leave(0);
        y.setVeto(0, true);
        due("leavesOut(0, 1), with a veto", y.leavesOut(0, 1), NONE);
        y.setVeto(0, false);
        y.setWeight(1, 0);
        due("leavesOut(0, 1), no weights", y.leavesOut(0, 1), NONE);
    }

    private static void fairest() {
        promise = 22;
        due("fairest() of 4, 3, 2, 1", council(6, 4, 3, 2, 1).fairest(), 5);
        due("fairest() of 1, 1, 1", council(2, 1, 1, 1).fairest(), 1);
        due("fairest() of 0, 0", council(2, 0, 0).fairest(), NONE);
        due("fairest() of 50", council(9, 50).fairest(), 1);
        due("fairest() of 3, 1, the same at each quota", council(1, 3, 1).fairest(), 1);
        due("fairest() of 3, 1, 1, with shares of 3, 1, 1", council(1, 3, 1, 1).fairest(), 2);
        SwingWeights x = council(6, 4, 3, 2, 1);
        x.join(0, 1);
        due("fairest() of 7, 2, 1", x.fairest(), 3);
        x.leave(0);
        x.setVeto(0, true);
        due("fairest() with a veto, 8 being as fair", x.fairest(), 7);
        due("count(2), which stays", x.count(2), 6);
        SwingWeights y = council(1, 0, 1, 1);
        y.setVeto(0, true);
        due("fairest() at the sum of all weights", y.fairest(), 2);
    }

    private static void ballot() {
        promise = 23;
        SwingWeights x = council(6, 4, 3, 2, 1);
        due("ballot(0, 0)", x.ballot(0, 0), NONE);
        vote(x, "++--,+-+-,0+++,0-0+");
        int[][] wants = {{0, 1, 0}, {1, 6, 0}, {1, 6, 0}, {1, 7, 0}, {NONE, NONE, NONE}};
        for (int back = 0; back < wants.length; back++) {
            for (int what = 0; what < 3; what++) {
                due("ballot(" + back + ", " + what + ")", x.ballot(back, what), wants[back][what]);
            }
        }
        due("ballot(-1, 0)", x.ballot(-1, 0), BAD_VALUE);
        due("ballot(0, 3)", x.ballot(0, 3), BAD_VALUE);
        due("ballot(0, -1)", x.ballot(0, -1), BAD_VALUE);
        due("ballot(99, 3)", x.ballot(99, 3), BAD_VALUE);
        due("ballot(far, 0)", x.ballot(Integer.MIN_VALUE, 0), BAD_VALUE);
        due("ballot(far, 0)", x.ballot(Integer.MAX_VALUE, 0), NONE);
        x.join(0, 3);
        x.join(1, 2);
        vote(x, "+-+0");
        due("ballot(0, 0)", x.ballot(0, 0), 0);
        due("ballot(0, 1)", x.ballot(0, 1), 5);
        due("ballot(0, 2)", x.ballot(0, 2), 2);
        vote(x, "-+-0,--00,++++");
        due("ballot(2, 1)", x.ballot(2, 1), 5);
        due("ballot(2, 2)", x.ballot(2, 2), 2);
        due("ballot(1, 2), where 0 is another sign than -", x.ballot(1, 2), 2);
        due("ballot(0, 2)", x.ballot(0, 2), 0);
        due("ballot(7, 1)", x.ballot(7, 1), 7);
        due("ballot(8, 1)", x.ballot(8, 1), NONE);
        vote(x, "++++");
        due("ballot(7, 1), the one after", x.ballot(7, 1), 6);
        due("ballot(8, 1), no longer known", x.ballot(8, 1), NONE);
        x.setWeight(0, 9);
        due("ballot(0, 1), of that time", x.ballot(0, 1), 10);
    }

    private static void count() {
        promise = 24;
        SwingWeights x = council(6, 4, 3, 2, 1);
        dueOfCounts(x, 4, 4, 6, 10, 7, 3, 12, 0, 0, 0, 0, 4, 0);
        due("count(-1)", x.count(-1), BAD_VALUE);
        due("count(13)", x.count(13), BAD_VALUE);
        for (int far : FAR) {
            due("count(" + far + ")", x.count(far), BAD_VALUE);
        }
        x.join(2, 3);
        x.setVeto(0, true);
        x.setVeto(1, true);
        x.undo();
        vote(x, "++++,----");
        x.type(',');
        dueOfCounts(x, 4, 3, 6, 10, 3, 2, 5, 0, 1, 2, 1, 4, 10);
        x.setQuota(4);
        dueOfCounts(x, 4, 3, 4, 10, 4, 1, 4, 2, 1, 2, 1, 4, 10);
        for (int times = 0; times < 4; times++) {
            x.clearText();
            vote(x, "++++,++++,----");
        }
        due("count(9), more than are known", x.count(9), 14);
        due("count(10)", x.count(10), 9);
        SwingWeights ten = council(5, 1, 1, 1, 1, 1, 1, 1, 1, 1, 1);
        dueOfCounts(ten, 10, 10, 5, 10, 638, 252, 1260, 0, 0, 0, 0, 4, 0);
    }

    public static void main(String[] args) {
        newObject();
        addMember();
        removeMember();
        setWeight();
        setVeto();
        setQuota();
        join();
        leave();
        type();
        clearText();
        vote();
        undo();
        keepAndRestore();
        member();
        share();
        wins();
        leastCoalition();
        ranked();
        withQuota();
        leavesOut();
        fairest();
        ballot();
        count();
        System.out.println("PromiseTests: " + right + " passed, " + wrong + " failed");
        if (wrong != 0) {
            System.exit(1);
        }
    }
}
