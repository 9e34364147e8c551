// What the tests of single sentences share: each test bears the words that it tests, and has objects of its own.
abstract class Sentences {
    static final int UNKNOWN = -1;
    static final int BAD_VALUE = -2;
    static final int FULL = -3;
    static final int NONE = -5;
    // no members for any council; the later ones would be members 0, 1 or 2 if a shift or a cast wrapped around
    static final int[] NO_MEMBERS = {-1, -2, -10, Integer.MIN_VALUE, Integer.MAX_VALUE, 10, 11, 31, 32, 33, 64, 256, 258,
        65536, 1 << 30, -32, -256, -65536};

    private static String heading = "";
    private static int sentences = 0;
    private static int broken = 0;
    private static boolean holds = true;

    static void heading(String words) {
        heading = words;
    }

    static void sentence(String words, Runnable test) {
        holds = true;
        test.run();
        sentences++;
        if (!holds) {
            broken++;
            System.out.println("broken: " + heading + ": " + words);
        }
    }

    static void due(String call, int got, int want) {
        if (got != want) {
            holds = false;
            System.out.println("  " + call + " answered " + got + ", due is " + want);
        }
    }

    static void end(String name) {
        System.out.println(name + ": " + (sentences - broken) + " sentences hold, " + broken + " are broken");
        if (broken != 0) {
            System.exit(1);
        }
    }

    // The members come one by one and the quota follows, so that these are as many acts.
    static SwingWeights council(int quota, int... weights) {
        SwingWeights x = new SwingWeights();
        for (int weight : weights) {
            x.addMember(weight);
        }
        x.setQuota(quota);
        return x;
    }

    static SwingWeights tenOf(int weight, int quota) {
        return council(quota, weight, weight, weight, weight, weight, weight, weight, weight, weight, weight);
    }

    static void bloc(SwingWeights x, int... members) {
        for (int m : members) {
            x.join(members[0], m);
        }
    }

    static void typeAll(SwingWeights x, String characters) {
        x.clearText();
        for (int i = 0; i < characters.length(); i++) {
            x.type(characters.charAt(i));
        }
    }

    static int vote(SwingWeights x, String characters) {
        typeAll(x, characters);
        return x.vote();
    }

    // What the members 0, 1, 2 .. answer.
    static void dueOfMembers(SwingWeights x, int what, int... wants) {
        for (int m = 0; m < wants.length; m++) {
            due("member(" + m + ", " + what + ")", x.member(m, what), wants[m]);
        }
    }

    static void dueOfCount(SwingWeights x, int what, int want) {
        due("count(" + what + ")", x.count(what), want);
    }

    static void dueOfUndo(SwingWeights x, int want) {
        due("undo()", x.undo(), want);
    }

    static void dueOfVote(SwingWeights x, String text, int want) {
        due("vote() of \"" + text + "\"", vote(x, text), want);
    }

    // The three numbers of the least coalition with this rank: its members, its blocs, its weight.
    static void dueOfLeast(SwingWeights x, int rank, int members, int blocs, int weight) {
        due("leastCoalition(" + rank + ", 0)", x.leastCoalition(rank, 0), members);
        due("leastCoalition(" + rank + ", 1)", x.leastCoalition(rank, 1), blocs);
        due("leastCoalition(" + rank + ", 2)", x.leastCoalition(rank, 2), weight);
    }

    static void dueOfRanked(SwingWeights x, int... wants) {
        for (int rank = 0; rank < wants.length; rank++) {
            due("ranked(" + rank + ")", x.ranked(rank), wants[rank]);
        }
    }

    // The three numbers of a ballot: whether it passed, its weight, the members with another sign than their leader.
    static void dueOfBallot(SwingWeights x, int back, int passed, int weight, int others) {
        due("ballot(" + back + ", 0)", x.ballot(back, 0), passed);
        due("ballot(" + back + ", 1)", x.ballot(back, 1), weight);
        due("ballot(" + back + ", 2)", x.ballot(back, 2), others);
    }
}
