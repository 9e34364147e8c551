import java.util.function.Supplier;
import java.util.function.ToIntFunction;

// Two councils with the same calls, one of which is asked once more, and whether they can be told apart from then on.
abstract class Twins extends Sentences {
    private static final int[] WHATS_OF_MEMBERS = {0, 1, 2, 5, 11};

    // The call answers what is due, and changes nothing.
    static void changesNothing(String call, Supplier<SwingWeights> council, ToIntFunction<SwingWeights> asked, int want) {
        SwingWeights x = council.get();
        SwingWeights twin = council.get();
        due(call, asked.applyAsInt(x), want);
        looksTheSame("after " + call, x, twin);
        due("vote() after " + call, x.vote(), twin.vote());
        looksTheSame("after " + call + " and vote()", x, twin);
        for (int times = 1; times <= 5; times++) {
            due("undo() after " + call, x.undo(), twin.undo());
            if (times == 1 || times == 4) {
                looksTheSame("after " + call + " and undo() " + times + " times", x, twin);
            }
        }
        due("restore() after " + call, x.restore(), twin.restore());
        looksTheSame("after " + call + " and restore()", x, twin);
    }

    // The call answers what is due, and records the state that was before it.
    static void isAct(String call, Supplier<SwingWeights> council, ToIntFunction<SwingWeights> asked, int want) {
        SwingWeights x = council.get();
        SwingWeights twin = council.get();
        due(call, asked.applyAsInt(x), want);
        due("count(11) after " + call, x.count(11), Math.min(twin.count(11) + 1, 4));
        due("undo() after " + call, x.undo(), Math.min(twin.count(11), 3));
        stateLooksTheSame("after " + call + " and undo()", x, twin);
    }

    static void looksTheSame(String when, SwingWeights x, SwingWeights twin) {
        due("count(11) " + when, x.count(11), twin.count(11));
        due("count(12) " + when, x.count(12), twin.count(12));
        stateLooksTheSame(when, x, twin);
    }

    static void stateLooksTheSame(String when, SwingWeights x, SwingWeights twin) {
        for (int what = 0; what <= 10; what++) {
            due("count(" + what + ") " + when, x.count(what), twin.count(what));
        }
        for (int m = 0; m < twin.count(0); m++) {
            for (int what : WHATS_OF_MEMBERS) {
                due("member(" + m + ", " + what + ") " + when, x.member(m, what), twin.member(m, what));
            }
        }
        for (int back = 0; back <= 2; back++) {
            due("ballot(" + back + ", 0) " + when, x.ballot(back, 0), twin.ballot(back, 0));
            due("ballot(" + back + ", 1) " + when, x.ballot(back, 1), twin.ballot(back, 1));
            due("ballot(" + back + ", 2) " + when, x.ballot(back, 2), twin.ballot(back, 2));
        }
    }
}
