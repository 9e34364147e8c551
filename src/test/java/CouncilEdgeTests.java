// The boundary cases of the promises 1 to 8, a new object and the council: a test for each.
public final class CouncilEdgeTests extends Twins {
    // no weights; the later ones would be weights if they wrapped around
    private static final int[] NO_WEIGHTS = {-1, 51, 52, -50, 256, 261, -251, 65536, 65541, 1 << 30, Integer.MAX_VALUE,
        Integer.MIN_VALUE, Integer.MIN_VALUE + 5};
    private static final int[] NO_QUOTAS = {0, -1, 501, 502, -500, 512, 1024, 65537, -65535, 1 << 30, Integer.MAX_VALUE,
        Integer.MIN_VALUE, Integer.MIN_VALUE + 5};

    private static SwingWeights three() {
        return council(5, 4, 3, 2);
    }

    private static void newObject() {
        heading("Promise 1");
        sentence("Creates a council without members", CouncilEdgeTests::withoutMembers);
        sentence("another object than those that were made before", CouncilEdgeTests::objectsOfTheirOwn);
    }

    private static void withoutMembers() {
        SwingWeights x = new SwingWeights();
        int[] counts = {0, 0, 1, 0, 0, 0, 0, 0, 0, 0, 0, 0, 0};
        for (int what = 0; what < counts.length; what++) {
            dueOfCount(x, what, counts[what]);
        }
        due("member(0, 0)", x.member(0, 0), UNKNOWN);
        due("ranked(0)", x.ranked(0), NONE);
        due("leastCoalition(0, 0)", x.leastCoalition(0, 0), NONE);
        due("fairest()", x.fairest(), NONE);
        due("ballot(0, 0)", x.ballot(0, 0), NONE);
    }

    private static void objectsOfTheirOwn() {
        SwingWeights before = three();
        before.keep();
        before.type('+');
        before.setQuota(7);
        SwingWeights x = new SwingWeights();
        dueOfCount(x, 0, 0);
        dueOfCount(x, 2, 1);
        dueOfCount(x, 11, 0);
        dueOfCount(x, 12, 0);
        due("restore()", x.restore(), NONE);
        x.addMember(50);
        dueOfCount(before, 0, 3);
        dueOfCount(before, 4, 2);
    }

    private static void addMember() {
        heading("Promise 2");
        sentence("Adds a member, who is alone in a bloc", CouncilEdgeTests::addsAlone);
        sentence("This is an act", () -> isAct("addMember(1)", CouncilEdgeTests::three, x -> x.addMember(1), 3));
        sentence("weight: 0", () -> due("addMember(0)", new SwingWeights().addMember(0), 0));
        sentence("weight: .. to 50", () -> due("addMember(50)", new SwingWeights().addMember(50), 0));
        sentence("Returns the number of the member", CouncilEdgeTests::numberOfAdded);
        sentence("BAD_VALUE", CouncilEdgeTests::addsNoBadWeight);
        sentence("FULL if there are 10", CouncilEdgeTests::fullAtTen);
    }

    private static void addsAlone() {
        SwingWeights x = three();
        bloc(x, 0, 1, 2);
        x.addMember(6);
        dueOfMembers(x, 2, 0, 0, 0, 3);
        dueOfMembers(x, 3, 9, 9, 9, 6);
        dueOfCount(x, 1, 2);
        due("leave(3)", x.leave(3), NONE);
        SwingWeights first = new SwingWeights();
        first.addMember(0);
        due("leave(0)", first.leave(0), NONE);
    }

    private static void numberOfAdded() {
        SwingWeights x = new SwingWeights();
        for (int m = 0; m < 10; m++) {
            due("addMember(5)", x.addMember(5), m);
        }
        x.removeMember(0);
        due("addMember(5) after one went", x.addMember(5), 9);
    }

    private static void addsNoBadWeight() {
        SwingWeights x = new SwingWeights();
        for (int weight : NO_WEIGHTS) {
            due("addMember(" + weight + ")", x.addMember(weight), BAD_VALUE);
        }
        dueOfCount(x, 0, 0);
        SwingWeights ten = tenOf(1, 1);
        due("addMember(51) of ten", ten.addMember(51), BAD_VALUE);
        due("addMember(-1) of ten", ten.addMember(-1), BAD_VALUE);
    }

    private static void fullAtTen() {
        SwingWeights x = tenOf(1, 1);
        due("addMember(0) of ten", x.addMember(0), FULL);
        due("addMember(50) of ten", x.addMember(50), FULL);
        x.removeMember(9);
        due("addMember(1) of nine", x.addMember(1), 9);
        due("addMember(1) of ten again", x.addMember(1), FULL);
    }

    private static void removeMember() {
        heading("Promise 3");
        sentence("Lets a member go: the first, the last", CouncilEdgeTests::firstAndLastGo);
        sentence("Lets a member go: one of a bloc", CouncilEdgeTests::oneOfBlocGoes);
        sentence("Lets a member go: the only one", CouncilEdgeTests::onlyOneGoes);
        sentence("This is an act", () -> isAct("removeMember(1)", CouncilEdgeTests::three, x -> x.removeMember(1), 2));
        sentence("Returns how many members are left", CouncilEdgeTests::membersLeft);
        sentence("UNKNOWN", CouncilEdgeTests::removesNoUnknown);
    }

    private static void firstAndLastGo() {
        SwingWeights x = three();
        x.removeMember(0);
        dueOfMembers(x, 0, 3, 2, UNKNOWN);
        x = three();
        x.removeMember(2);
        dueOfMembers(x, 0, 4, 3, UNKNOWN);
        SwingWeights ten = council(1, 0, 1, 2, 3, 4, 5, 6, 7, 8, 9);
        ten.setVeto(9, true);
        ten.removeMember(0);
        dueOfMembers(ten, 0, 1, 2, 3, 4, 5, 6, 7, 8, 9, UNKNOWN);
        dueOfMembers(ten, 1, 0, 0, 0, 0, 0, 0, 0, 0, 1, UNKNOWN);
    }

    private static void oneOfBlocGoes() {
        SwingWeights x = council(5, 4, 3, 2, 1);
        bloc(x, 0, 2, 3);
        x.removeMember(0);
        dueOfMembers(x, 2, 0, 1, 1, UNKNOWN);
        dueOfMembers(x, 3, 3, 3, 3, UNKNOWN);
        dueOfMembers(x, 4, 0, 1, 1, UNKNOWN);
        x.removeMember(2);
        dueOfMembers(x, 2, 0, 1, UNKNOWN);
        dueOfMembers(x, 3, 3, 2, UNKNOWN);
        due("leave(1), alone by now", x.leave(1), NONE);
    }

    private static void onlyOneGoes() {
        SwingWeights x = council(4, 4);
        x.setVeto(0, true);
        due("removeMember(0)", x.removeMember(0), 0);
        for (int what : new int[] {0, 1, 3, 4, 5, 6, 7, 8}) {
            dueOfCount(x, what, 0);
        }
        dueOfCount(x, 2, 4);
        due("wins(0)", x.wins(0), 0);
    }

    private static void membersLeft() {
        SwingWeights x = tenOf(1, 1);
        for (int left = 9; left >= 0; left--) {
            due("removeMember(0)", x.removeMember(0), left);
        }
        due("removeMember(0) of none", x.removeMember(0), UNKNOWN);
    }

    private static void removesNoUnknown() {
        SwingWeights x = three();
        due("removeMember(3)", x.removeMember(3), UNKNOWN);
        SwingWeights ten = tenOf(1, 1);
        for (int m : NO_MEMBERS) {
            due("removeMember(" + m + ")", x.removeMember(m), UNKNOWN);
            due("removeMember(" + m + ") of ten", ten.removeMember(m), UNKNOWN);
        }
        due("removeMember(0) of a new object", new SwingWeights().removeMember(0), UNKNOWN);
    }

    private static void setWeight() {
        heading("Promise 4");
        sentence("Sets a weight", CouncilEdgeTests::setsWeight);
        sentence("This is an act", () -> isAct("setWeight(1, 50)", CouncilEdgeTests::three, x -> x.setWeight(1, 50), 3));
        sentence("weight: 0", () -> due("setWeight(0, 0)", three().setWeight(0, 0), 4));
        sentence("weight: .. to 50", () -> due("setWeight(0, 50)", three().setWeight(0, 50), 4));
        sentence("Returns the previous weight", CouncilEdgeTests::previousWeight);
        sentence("UNKNOWN", CouncilEdgeTests::setsNoUnknownWeight);
        sentence("BAD_VALUE", CouncilEdgeTests::setsNoBadWeight);
        sentence("NONE if it is so already", CouncilEdgeTests::weightIsSoAlready);
    }

    private static void setsWeight() {
        SwingWeights x = three();
        bloc(x, 0, 2);
        x.setWeight(0, 0);
        dueOfMembers(x, 0, 0, 3, 2);
        dueOfMembers(x, 3, 2, 3, 2);
        dueOfMembers(x, 4, 2, 1, 2);
        dueOfCount(x, 3, 5);
        dueOfCount(x, 4, 1);
        x.setWeight(2, 50);
        dueOfMembers(x, 3, 50, 3, 50);
        dueOfCount(x, 4, 2);
    }

    private static void previousWeight() {
        SwingWeights x = three();
        due("setWeight(2, 0)", x.setWeight(2, 0), 2);
        due("setWeight(2, 50)", x.setWeight(2, 50), 0);
        due("setWeight(2, 1)", x.setWeight(2, 1), 50);
    }

    private static void setsNoUnknownWeight() {
        SwingWeights x = three();
        due("setWeight(3, 1)", x.setWeight(3, 1), UNKNOWN);
        due("setWeight(3, 51)", x.setWeight(3, 51), UNKNOWN);
        SwingWeights ten = tenOf(1, 1);
        for (int m : NO_MEMBERS) {
            due("setWeight(" + m + ", 1)", x.setWeight(m, 1), UNKNOWN);
            due("setWeight(" + m + ", 2) of ten", ten.setWeight(m, 2), UNKNOWN);
            due("setWeight(" + m + ", -1) of ten", ten.setWeight(m, -1), UNKNOWN);
        }
        due("setWeight(0, 0) of a new object", new SwingWeights().setWeight(0, 0), UNKNOWN);
    }

    private static void setsNoBadWeight() {
        SwingWeights x = three();
        for (int weight : NO_WEIGHTS) {
            due("setWeight(0, " + weight + ")", x.setWeight(0, weight), BAD_VALUE);
        }
        dueOfMembers(x, 0, 4, 3, 2);
    }

    private static void weightIsSoAlready() {
        SwingWeights x = council(5, 0, 50, 7);
        due("setWeight(0, 0)", x.setWeight(0, 0), NONE);
        due("setWeight(1, 50)", x.setWeight(1, 50), NONE);
        due("setWeight(2, 7)", x.setWeight(2, 7), NONE);
        due("setWeight(2, 0)", x.setWeight(2, 0), 7);
        due("setWeight(2, 0)", x.setWeight(2, 0), NONE);
    }

    private static void setVeto() {
        heading("Promise 5");
        sentence("Gives a member a veto", CouncilEdgeTests::givesVeto);
        sentence("or takes it", CouncilEdgeTests::takesVeto);
        sentence("This is an act", () -> isAct("setVeto(1, true)", CouncilEdgeTests::three, x -> x.setVeto(1, true), 1));
        sentence("Returns how many members have a veto then", CouncilEdgeTests::vetoesThen);
        sentence("UNKNOWN", CouncilEdgeTests::noUnknownVeto);
        sentence("NONE if it is so already", CouncilEdgeTests::vetoIsSoAlready);
    }

    private static void givesVeto() {
        SwingWeights x = three();
        x.setVeto(0, true);
        dueOfMembers(x, 1, 1, 0, 0);
        dueOfCount(x, 4, 3);
        x.setVeto(2, true);
        dueOfMembers(x, 1, 1, 0, 1);
        dueOfCount(x, 4, 2);
    }

    private static void takesVeto() {
        SwingWeights x = three();
        x.setVeto(0, true);
        x.setVeto(2, true);
        x.setVeto(0, false);
        dueOfMembers(x, 1, 0, 0, 1);
        dueOfCount(x, 4, 3);
        x.setVeto(2, false);
        dueOfMembers(x, 1, 0, 0, 0);
        dueOfCount(x, 4, 4);
    }

    private static void vetoesThen() {
        SwingWeights x = tenOf(1, 1);
        for (int m = 9; m >= 0; m--) {
            due("setVeto(" + m + ", true)", x.setVeto(m, true), 10 - m);
        }
        for (int m = 9; m >= 0; m--) {
            due("setVeto(" + m + ", false)", x.setVeto(m, false), m);
        }
        SwingWeights two = council(1, 1, 1);
        bloc(two, 0, 1);
        due("setVeto(0, true) of a bloc", two.setVeto(0, true), 1);
        due("setVeto(1, true) of a bloc", two.setVeto(1, true), 2);
    }

    private static void noUnknownVeto() {
        SwingWeights x = three();
        due("setVeto(3, true)", x.setVeto(3, true), UNKNOWN);
        due("setVeto(3, false)", x.setVeto(3, false), UNKNOWN);
        SwingWeights ten = tenOf(1, 1);
        for (int m : NO_MEMBERS) {
            due("setVeto(" + m + ", true)", x.setVeto(m, true), UNKNOWN);
            due("setVeto(" + m + ", false) of ten", ten.setVeto(m, false), UNKNOWN);
        }
        dueOfCount(x, 8, 0);
    }

    private static void vetoIsSoAlready() {
        SwingWeights x = three();
        due("setVeto(0, false)", x.setVeto(0, false), NONE);
        x.setVeto(1, true);
        due("setVeto(1, true)", x.setVeto(1, true), NONE);
        due("setVeto(2, false)", x.setVeto(2, false), NONE);
        bloc(x, 0, 1);
        due("setVeto(0, false), where its bloc has one", x.setVeto(0, false), NONE);
        due("setVeto(0, true), where its bloc has one", x.setVeto(0, true), 2);
    }

    private static void setQuota() {
        heading("Promise 6");
        sentence("Sets the quota", CouncilEdgeTests::setsQuota);
        sentence("This is an act", () -> isAct("setQuota(6)", CouncilEdgeTests::three, x -> x.setQuota(6), 5));
        sentence("quota: 1", () -> due("setQuota(1)", three().setQuota(1), 5));
        sentence("quota: .. to 500", () -> due("setQuota(500)", three().setQuota(500), 5));
        sentence("Returns the previous quota", CouncilEdgeTests::previousQuota);
        sentence("BAD_VALUE", CouncilEdgeTests::setsNoBadQuota);
        sentence("NONE if it is so already", CouncilEdgeTests::quotaIsSoAlready);
    }

    private static void setsQuota() {
        SwingWeights x = three();
        dueOfCount(x, 5, 3);
        x.setQuota(9);
        dueOfCount(x, 2, 9);
        dueOfCount(x, 4, 1);
        dueOfLeast(x, 0, 7, 3, 9);
        x.setQuota(500);
        dueOfCount(x, 2, 500);
        dueOfCount(x, 4, 0);
        dueOfMembers(x, 6, 0, 0, 0);
        x.setQuota(1);
        dueOfCount(x, 2, 1);
        dueOfCount(x, 4, 7);
        dueOfMembers(x, 6, 2, 2, 2);
    }

    private static void previousQuota() {
        SwingWeights x = new SwingWeights();
        due("setQuota(500)", x.setQuota(500), 1);
        due("setQuota(2)", x.setQuota(2), 500);
        due("setQuota(1)", x.setQuota(1), 2);
    }

    private static void setsNoBadQuota() {
        SwingWeights x = three();
        for (int quota : NO_QUOTAS) {
            due("setQuota(" + quota + ")", x.setQuota(quota), BAD_VALUE);
        }
        dueOfCount(x, 2, 5);
    }

    private static void quotaIsSoAlready() {
        SwingWeights x = new SwingWeights();
        due("setQuota(1) at first", x.setQuota(1), NONE);
        x.setQuota(500);
        due("setQuota(500)", x.setQuota(500), NONE);
        x.undo();
        due("setQuota(1) after undo()", x.setQuota(1), NONE);
    }

    private static void join() {
        heading("Promise 7");
        sentence("Makes the blocs of two members one", CouncilEdgeTests::makesOne);
        sentence("This is an act", () -> isAct("join(2, 1)", CouncilEdgeTests::three, x -> x.join(2, 1), 2));
        sentence("Returns how many members the bloc has then", CouncilEdgeTests::membersOfJoined);
        sentence("UNKNOWN (member or other)", CouncilEdgeTests::joinsNoUnknown);
        sentence("NONE if both are in one bloc already", CouncilEdgeTests::joinedAlready);
    }

    private static void makesOne() {
        SwingWeights x = tenOf(1, 1);
        bloc(x, 9, 7);
        bloc(x, 8, 6);
        x.join(7, 8);
        dueOfMembers(x, 2, 0, 1, 2, 3, 4, 5, 6, 6, 6, 6);
        x.join(0, 9);
        dueOfMembers(x, 2, 0, 1, 2, 3, 4, 5, 0, 0, 0, 0);
        dueOfMembers(x, 3, 5, 1, 1, 1, 1, 1, 5, 5, 5, 5);
        dueOfCount(x, 1, 6);
    }

    private static void membersOfJoined() {
        SwingWeights x = tenOf(1, 1);
        for (int m = 1; m < 10; m++) {
            due("join(" + m + ", " + (m - 1) + ")", x.join(m, m - 1), m + 1);
        }
        SwingWeights four = council(1, 1, 1, 1, 1);
        due("join(0, 3)", four.join(0, 3), 2);
        due("join(2, 1)", four.join(2, 1), 2);
        due("join(1, 0), two and two", four.join(1, 0), 4);
    }

    private static void joinsNoUnknown() {
        SwingWeights x = three();
        due("join(3, 0)", x.join(3, 0), UNKNOWN);
        due("join(0, 3)", x.join(0, 3), UNKNOWN);
        due("join(3, 3)", x.join(3, 3), UNKNOWN);
        SwingWeights ten = tenOf(1, 1);
        for (int m : NO_MEMBERS) {
            due("join(" + m + ", 0)", x.join(m, 0), UNKNOWN);
            due("join(1, " + m + ")", x.join(1, m), UNKNOWN);
            due("join(" + m + ", 1) of ten", ten.join(m, 1), UNKNOWN);
            due("join(" + m + ", " + m + ") of ten", ten.join(m, m), UNKNOWN);
        }
        due("join(0, 0) of a new object", new SwingWeights().join(0, 0), UNKNOWN);
    }

    private static void joinedAlready() {
        SwingWeights x = three();
        due("join(1, 1)", x.join(1, 1), NONE);
        x.join(0, 1);
        x.join(1, 2);
        due("join(0, 2)", x.join(0, 2), NONE);
        due("join(2, 0)", x.join(2, 0), NONE);
        x.leave(1);
        due("join(0, 2)", x.join(0, 2), NONE);
        due("join(0, 1)", x.join(0, 1), 3);
    }

    private static SwingWeights allInOne() {
        SwingWeights x = three();
        bloc(x, 0, 1, 2);
        return x;
    }

    private static void leave() {
        heading("Promise 8");
        sentence("Lets a member leave the bloc", CouncilEdgeTests::leavesBloc);
        sentence("the member is alone then", CouncilEdgeTests::aloneThen);
        sentence("This is an act", () -> isAct("leave(1)", CouncilEdgeTests::allInOne, x -> x.leave(1), 2));
        sentence("Returns how many members are left in the bloc", CouncilEdgeTests::leftInBloc);
        sentence("UNKNOWN", CouncilEdgeTests::unknownLeavesNot);
        sentence("NONE if the member is alone already", CouncilEdgeTests::aloneAlready);
    }

    private static void leavesBloc() {
        SwingWeights x = allInOne();
        x.leave(0);
        dueOfMembers(x, 2, 0, 1, 1);
        dueOfMembers(x, 3, 4, 5, 5);
        x = allInOne();
        x.leave(1);
        dueOfMembers(x, 2, 0, 1, 0);
        dueOfMembers(x, 3, 6, 3, 6);
        x = allInOne();
        x.leave(2);
        dueOfMembers(x, 2, 0, 0, 2);
        dueOfMembers(x, 3, 7, 7, 2);
    }

    private static void aloneThen() {
        SwingWeights x = allInOne();
        x.setVeto(2, true);
        x.leave(2);
        due("leave(2) again", x.leave(2), NONE);
        dueOfMembers(x, 1, 0, 0, 1);
        due("wins(3), without the veto that left", x.wins(3), 0);
        x.leave(0);
        dueOfMembers(x, 2, 0, 1, 2);
        dueOfCount(x, 1, 3);
    }

    private static void leftInBloc() {
        SwingWeights x = tenOf(1, 1);
        bloc(x, 0, 1, 2, 3, 4, 5, 6, 7, 8, 9);
        for (int m = 9; m >= 1; m--) {
            due("leave(" + m + ")", x.leave(m), m);
        }
        due("leave(0)", x.leave(0), NONE);
    }

    private static void unknownLeavesNot() {
        SwingWeights x = allInOne();
        due("leave(3)", x.leave(3), UNKNOWN);
        SwingWeights ten = tenOf(1, 1);
        for (int m : NO_MEMBERS) {
            due("leave(" + m + ")", x.leave(m), UNKNOWN);
            due("leave(" + m + ") of ten", ten.leave(m), UNKNOWN);
        }
        due("leave(0) of a new object", new SwingWeights().leave(0), UNKNOWN);
    }

    private static void aloneAlready() {
        SwingWeights x = three();
        due("leave(0)", x.leave(0), NONE);
        bloc(x, 0, 2);
        due("leave(1)", x.leave(1), NONE);
        due("leave(0)", x.leave(0), 1);
        due("leave(2), whom the other one left", x.leave(2), NONE);
        due("leave(0) of one", council(1, 1).leave(0), NONE);
    }

    public static void main(String[] args) {
        newObject();
        addMember();
        removeMember();
        setWeight();
        setVeto();
        setQuota();
        join();
        leave();
        end("CouncilEdgeTests");
    }
}
