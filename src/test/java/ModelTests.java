// Makes runs of 512 calls, the same each time, on the class and on PlainCouncil, and compares all answers.
public final class ModelTests {
    private static final int CALLS = 512;
    private static final int[] ODD_NUMBERS = {Integer.MIN_VALUE, -2, -1, 10, 11, 12, 13, 50, 51, 60, 500, 501, 1024,
        Integer.MAX_VALUE};

    private static int right = 0;
    private static int wrong = 0;

    private final int run;
    private final int mostMembers;
    private final int mostWeight;
    private long seed;
    private int calls = 0;
    private final SwingWeights real = new SwingWeights();
    private final PlainCouncil plain = new PlainCouncil();

    private ModelTests(int run) {
        this.run = run;
        this.seed = run * 7919L + 1;
        this.mostMembers = 1 + any(run % 12 == 0 ? 10 : 6);
        this.mostWeight = new int[] {1, 3, 7, 50}[any(run % 12 == 0 ? 3 : 4)];
    }

    private int any(int below) {
        seed = seed * 6364136223846793005L + 1442695040888963407L;
        return (int) ((seed >>> 33) % below);
    }

    private boolean rarely() {
        return any(20) == 0;
    }

    private int number(int below) {
        return rarely() ? ODD_NUMBERS[any(ODD_NUMBERS.length)] : any(Math.max(below, 1));
    }

    private int memberNumber() {
        return number(plain.count(0) + (rarely() ? 1 : 0));
    }

    private int quota() {
        return rarely() ? 1 + any(500) : number(plain.count(3) + 2);
    }

    private void same(String call, int got, int want) {
        calls++;
        if (got == want) {
            right++;
        } else {
            wrong++;
            if (wrong <= 20) {
                System.out.println("run " + run + ", call " + calls + ": " + call + " answered " + got + ", due is " + want);
            }
        }
    }

    private void type(char character) {
        same("type(" + (int) character + ")", real.type(character), plain.type(character));
    }

    private void typeBallots() {
        same("clearText()", real.clearText(), plain.clearText());
        int members = plain.count(0);
        int ballots = 1 + any(rarely() ? 12 : 3);
        for (int b = 0; b < ballots && calls < CALLS - 12; b++) {
            if (b > 0) {
                type(',');
            }
            for (int m = 0; m < members; m++) {
                type(any(150) == 0 ? (char) any(300) : "++-0".charAt(any(4)));
            }
        }
    }

    private void act() {
        int m = memberNumber();
        int other = memberNumber();
        int weight = number(mostWeight + 1);
        int quota = quota();
        boolean has = any(3) == 0;
        switch (any(9)) {
            case 0, 1:
                if (plain.count(0) < mostMembers || rarely()) {
                    same("addMember(" + weight + ")", real.addMember(weight), plain.addMember(weight));
                }
                break;
            case 2:
                if (any(4) == 0) {
                    same("removeMember(" + m + ")", real.removeMember(m), plain.removeMember(m));
                }
                break;
            case 3: same("setWeight(" + m + ", " + weight + ")", real.setWeight(m, weight), plain.setWeight(m, weight)); break;
            case 4: same("setVeto(" + m + ", " + has + ")", real.setVeto(m, has), plain.setVeto(m, has)); break;
            case 5, 6: same("setQuota(" + quota + ")", real.setQuota(quota), plain.setQuota(quota)); break;
            case 7: same("join(" + m + ", " + other + ")", real.join(m, other), plain.join(m, other)); break;
            default: same("leave(" + m + ")", real.leave(m), plain.leave(m)); break;
        }
    }

    private void ballotsOrHistory() {
        switch (any(10)) {
            case 0, 1:
                typeBallots();
                same("vote()", real.vote(), plain.vote());
                break;
            case 2, 3: same("vote()", real.vote(), plain.vote()); break;
            case 4: type((char) (rarely() ? any(65536) : "+-0,".charAt(any(4)))); break;
            case 5: same("clearText()", real.clearText(), plain.clearText()); break;
            case 6, 7: same("undo()", real.undo(), plain.undo()); break;
            case 8: same("keep()", real.keep(), plain.keep()); break;
            default: same("restore()", real.restore(), plain.restore()); break;
        }
    }

    private void question() {
        int m = memberNumber();
        int what = number(13);
        int few = number(4);
        int quota = quota();
        int rank = number(rarely() ? 20 : 4);
        int set = rarely() ? number(2048) : any(1 << plain.count(0));
        switch (any(12)) {
            case 0, 1, 2: same("member(" + m + ", " + what + ")", real.member(m, what), plain.member(m, what)); break;
            case 3: same("share(" + m + ", " + few + ")", real.share(m, few), plain.share(m, few)); break;
            case 4: same("wins(" + set + ")", real.wins(set), plain.wins(set)); break;
            case 5:
                same("leastCoalition(" + rank + ", " + few + ")", real.leastCoalition(rank, few),
                    plain.leastCoalition(rank, few));
                break;
            case 6: same("ranked(" + rank + ")", real.ranked(rank), plain.ranked(rank)); break;
            case 7: same("withQuota(" + quota + ", " + few + ")", real.withQuota(quota, few), plain.withQuota(quota, few)); break;
            case 8: same("leavesOut(" + m + ", " + quota + ")", real.leavesOut(m, quota), plain.leavesOut(m, quota)); break;
            case 9: same("ballot(" + rank + ", " + few + ")", real.ballot(rank, few), plain.ballot(rank, few)); break;
            case 10:
                if (any(4) == 0) {
                    same("fairest()", real.fairest(), plain.fairest());
                }
                break;
            default: same("count(" + what + ")", real.count(what), plain.count(what)); break;
        }
    }

    private void goOn() {
        for (int step = 0; step < 3 * CALLS && calls < CALLS - 100; step++) {
            switch (any(5)) {
                case 0, 1: act(); break;
                case 2: ballotsOrHistory(); break;
                default: question(); break;
            }
        }
        lookAtAll();
    }

    private void lookAtAll() {
        for (int what = 0; what <= 12 && calls < CALLS; what++) {
            same("count(" + what + ")", real.count(what), plain.count(what));
        }
        for (int m = 0; m < plain.count(0); m++) {
            for (int what = 0; what <= 11 && calls < CALLS; what++) {
                same("member(" + m + ", " + what + ")", real.member(m, what), plain.member(m, what));
            }
        }
    }

    public static void main(String[] args) {
        for (int run = 1; run <= 600; run++) {
            new ModelTests(run).goOn();
        }
        System.out.println("ModelTests: " + right + " passed, " + wrong + " failed");
        if (wrong != 0) {
            System.exit(1);
        }
    }
}
