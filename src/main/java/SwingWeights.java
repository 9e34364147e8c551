import java.util.Arrays;

/**
 * A council whose members have weights, vetoes and blocs, and the power that these give.
 * Sets of members are bits throughout: 1 for the member 0, 2 for 1, 4 for 2, and so on.
 */
public final class SwingWeights {
    /** There is no such member. */
    public static final int UNKNOWN = -1;
    /** Another argument is out of range. */
    public static final int BAD_VALUE = -2;
    /** There is no more room. */
    public static final int FULL = -3;
    /** This is not possible. */
    public static final int NOT_POSSIBLE = -4;
    /** There is no such thing; not an error. */
    public static final int NONE = -5;

    private static final int MOST_MEMBERS = 10;
    private static final int MOST_WEIGHT = 50;
    private static final int MOST_QUOTA = 500;
    private static final int MOST_CHARACTERS = 60;
    private static final int MOST_STATES = 4;
    private static final int KNOWN_BALLOTS = 8;
    private static final int FIRST_FAULT = -100;
    private static final int NO_FAULT = -1;
    private static final int[] FACTORIALS = {1, 1, 2, 6, 24, 120, 720, 5040, 40320, 362880, 3628800};

    private final State state;
    private final State snapshot;
    private boolean hasSnapshot;
    private final History history;
    private final Text text;
    private final Power power;
    private boolean powerIsOfState;

    /** Creates a council without members. */
    public SwingWeights() {
        state = new State();
        snapshot = new State();
        history = new History();
        text = new Text();
        power = new Power();
    }

    // ---- the council

    /** Adds a member, who is alone in a bloc; an act. Returns its number; BAD_VALUE; FULL. */
    public int addMember(int weight) {
        if (!isWeight(weight)) {
            return BAD_VALUE;
        }
        if (state.members >= MOST_MEMBERS) {
            return FULL;
        }
        beginAct();
        return state.append(weight);
    }

    /** Lets a member go; an act. Returns how many members are left; UNKNOWN. */
    public int removeMember(int member) {
        if (!state.has(member)) {
            return UNKNOWN;
        }
        beginAct();
        state.drop(member);
        return state.members;
    }

    /** Sets a weight; an act. Returns the previous one; UNKNOWN; BAD_VALUE; NONE if it is so already. */
    public int setWeight(int member, int weight) {
        if (!state.has(member)) {
            return UNKNOWN;
        }
        if (!isWeight(weight)) {
            return BAD_VALUE;
        }
        int previous = state.weights[member];
        if (previous == weight) {
            return NONE;
        }
        beginAct();
        state.weights[member] = weight;
        return previous;
    }

    /** Gives or takes a veto; an act. Returns how many members have one then; UNKNOWN; NONE if it is so already. */
    public int setVeto(int member, boolean has) {
        if (!state.has(member)) {
            return UNKNOWN;
        }
        int vetoes = has ? state.vetoes | bit(member) : state.vetoes & ~bit(member);
        if (vetoes == state.vetoes) {
            return NONE;
        }
        beginAct();
        state.vetoes = vetoes;
        return Integer.bitCount(vetoes);
    }

    /** Sets the quota; an act. Returns the previous one; BAD_VALUE; NONE if it is so already. */
    public int setQuota(int quota) {
        if (!isQuota(quota)) {
            return BAD_VALUE;
        }
        int previous = state.quota;
        if (previous == quota) {
            return NONE;
        }
        beginAct();
        state.quota = quota;
        return previous;
    }

    /** Makes two blocs one; an act. Returns how many members it has; UNKNOWN; NONE if they are one already. */
    public int join(int member, int other) {
        if (!state.has(member) || !state.has(other)) {
            return UNKNOWN;
        }
        if (holds(state.blocs[member], other)) {
            return NONE;
        }
        beginAct();
        int united = state.blocs[member] | state.blocs[other];
        state.makeBloc(united);
        return Integer.bitCount(united);
    }

    /** Lets a member leave its bloc; an act. Returns how many are left in it; UNKNOWN; NONE if alone already. */
    public int leave(int member) {
        if (!state.has(member)) {
            return UNKNOWN;
        }
        int left = state.blocs[member] & ~bit(member);
        if (left == 0) {
            return NONE;
        }
        beginAct();
        state.makeBloc(left);
        state.makeBloc(bit(member));
        return Integer.bitCount(left);
    }

    // ---- ballots and texts

    /** Types a character behind the text. Returns its length then; FULL. */
    public int type(char character) {
        if (text.length >= MOST_CHARACTERS) {
            return FULL;
        }
        text.append(character);
        return text.length;
    }

    /** Empties the text. Returns the length that it had. */
    public int clearText() {
        int had = text.length;
        text.length = 0;
        return had;
    }

    /** Holds the ballots of the text; one act. Returns how many pass; -100 minus the fault of the text. */
    public int vote() {
        int fault = text.fault(state.members);
        if (fault != NO_FAULT) {
            return FIRST_FAULT - fault;
        }
        beginAct();
        int passedBefore = state.ballots.passed;
        for (int start = 0; start < text.length; start += state.members + 1) {
            state.hold(text, start);
        }
        return state.ballots.passed - passedBefore;
    }

    // ---- history

    /** Removes and restores the latest state of the history. Returns how many are left; NONE. */
    public int undo() {
        if (history.size == 0) {
            return NONE;
        }
        history.takeLatest(state);
        powerIsOfState = false;
        return history.size;
    }

    /** Takes a snapshot of the state. Returns how many members there are. */
    public int keep() {
        snapshot.copyFrom(state);
        hasSnapshot = true;
        return state.members;
    }

    /** Restores the state of the snapshot; an act. Returns how many members there are then; NONE. */
    public int restore() {
        if (!hasSnapshot) {
            return NONE;
        }
        beginAct();
        state.copyFrom(snapshot);
        return state.members;
    }

    // ---- members and coalitions

    /** Tells what a member is and can do. Returns the number; UNKNOWN; BAD_VALUE. */
    public int member(int member, int what) {
        if (!state.has(member)) {
            return UNKNOWN;
        }
        switch (what) {
            case 0: return state.weights[member];
            case 1: return oneIf(holds(state.vetoes, member));
            case 2: return state.lowestBeside(member);
            case 3: return state.weightOf(state.blocs[member]);
            case 4: return state.leaderOf(member);
            case 5: return currentPower().swings(member, state.quota);
            case 6: return currentPower().orders(member);
            case 7: return oneIf(currentPower().isDummy(member, state.quota));
            case 8: return oneIf(currentPower().isBlocker(member, state.quota));
            case 9: return oneIf(currentPower().isDictator(member));
            case 10: return rankOf(member, currentPower());
            case 11: return state.swingBallots[member];
            default: return BAD_VALUE;
        }
    }

    /** Tells a bloc's share of power, in lowest terms. Returns the number; UNKNOWN; BAD_VALUE; NONE. */
    public int share(int member, int what) {
        if (!state.has(member)) {
            return UNKNOWN;
        }
        if (what < 0 || what > 3) {
            return BAD_VALUE;
        }
        Power now = currentPower();
        if (now.winningCoalitions(state.quota) == 0) {
            return NONE;
        }
        boolean ofSwings = what < 2;
        int part = ofSwings ? now.swings(member, state.quota) : now.orders(member);
        int whole = ofSwings ? now.swingsOfAll(state.quota) : factorial(state.blocCount());
        int asked = what == 0 || what == 2 ? part : whole;
        return asked / greatestDivisor(part, whole);
    }

    /** Tells whether the blocs that lie wholly in a set of members win. Returns 1 or 0; BAD_VALUE. */
    public int wins(int members) {
        if ((members & ~state.everyone()) != 0) {
            return BAD_VALUE;
        }
        return oneIf(state.isWinning(state.wholeBlocsIn(members)));
    }

    /** Looks at the least coalitions, in their order. Returns the number; BAD_VALUE; NONE. */
    public int leastCoalition(int rank, int what) {
        if (rank < 0 || what < 0 || what > 2) {
            return BAD_VALUE;
        }
        Power now = currentPower();
        return rank < now.leastCoalitions() ? now.ofLeast(rank, what) : NONE;
    }

    /** Finds the member with a rank. Returns it; BAD_VALUE; NONE. */
    public int ranked(int rank) {
        if (rank < 0) {
            return BAD_VALUE;
        }
        Power now = currentPower();
        for (int member = 0; member < state.members; member++) {
            if (rankOf(member, now) == rank) {
                return member;
            }
        }
        return NONE;
    }

    // ---- other quotas

    /** Tells what would be with another quota. Returns the number; BAD_VALUE. */
    public int withQuota(int quota, int what) {
        if (!isQuota(quota)) {
            return BAD_VALUE;
        }
        switch (what) {
            case 0: return currentPower().dummies(quota);
            case 1: return currentPower().blockers(quota);
            case 2: return currentPower().swingsOfAll(quota);
            case 3: return currentPower().winningCoalitions(quota);
            default: return BAD_VALUE;
        }
    }

    /** Finds the least quota, from one on, that makes a member's bloc a dummy. Returns it; UNKNOWN; BAD_VALUE; NONE. */
    public int leavesOut(int member, int from) {
        if (!state.has(member)) {
            return UNKNOWN;
        }
        if (!isQuota(from)) {
            return BAD_VALUE;
        }
        Power now = currentPower();
        int last = state.weightOf(state.everyone());
        for (int quota = from; quota <= last; quota++) {
            if (now.isDummy(member, quota)) {
                return quota;
            }
        }
        return NONE;
    }

    /** Finds the quota with which power is most like weight. Returns it; NONE. */
    public int fairest() {
        int last = state.weightOf(state.everyone());
        if (last == 0) {
            return NONE;
        }
        Power now = currentPower();
        int best = 1;
        long bestDistance = now.distance(best);
        long bestSwings = now.swingsOfAll(best);
        for (int quota = 2; quota <= last; quota++) {
            long distance = now.distance(quota);
            long swings = now.swingsOfAll(quota);
            // the fractions are compared crosswise, so that nothing is rounded
            if (distance * bestSwings < bestDistance * swings) {
                best = quota;
                bestDistance = distance;
                bestSwings = swings;
            }
        }
        return best;
    }

    // ---- what is told

    /** Looks back at the ballots, 0 for the latest one. Returns the number; BAD_VALUE; NONE. */
    public int ballot(int back, int what) {
        if (back < 0 || what < 0 || what > 2) {
            return BAD_VALUE;
        }
        if (back >= KNOWN_BALLOTS || back >= state.ballots.held) {
            return NONE;
        }
        switch (what) {
            case 0: return state.ballots.outcomes[back];
            case 1: return state.ballots.plusWeights[back];
            default: return state.ballots.dissenters[back];
        }
    }

    /** Tells how many there are of something. Returns the number; BAD_VALUE. */
    public int count(int what) {
        switch (what) {
            case 0: return state.members;
            case 1: return state.blocCount();
            case 2: return state.quota;
            case 3: return state.weightOf(state.everyone());
            case 4: return currentPower().winningCoalitions(state.quota);
            case 5: return currentPower().leastCoalitions();
            case 6: return currentPower().swingsOfAll(state.quota);
            case 7: return currentPower().dummies(state.quota);
            case 8: return Integer.bitCount(state.vetoes);
            case 9: return state.ballots.held;
            case 10: return state.ballots.passed;
            case 11: return history.size;
            case 12: return text.length;
            default: return BAD_VALUE;
        }
    }

    // An act comes here when it can no longer fail, and before it changes anything.
    private void beginAct() {
        history.add(state);
        powerIsOfState = false;
    }

    // Power is dear to work out, so it is done once for many questions.
    private Power currentPower() {
        if (!powerIsOfState) {
            power.workOut(state);
            powerIsOfState = true;
        }
        return power;
    }

    private int rankOf(int member, Power now) {
        int ahead = 0;
        for (int other = 0; other < state.members; other++) {
            if (isAhead(other, member, now)) {
                ahead++;
            }
        }
        return ahead;
    }

    private boolean isAhead(int other, int member, Power now) {
        int bySwings = Integer.compare(now.swings(other, state.quota), now.swings(member, state.quota));
        if (bySwings != 0) {
            return bySwings > 0;
        }
        int byWeight = Integer.compare(state.weights[other], state.weights[member]);
        return byWeight != 0 ? byWeight > 0 : other < member;
    }

    private static boolean isWeight(int weight) {
        return weight >= 0 && weight <= MOST_WEIGHT;
    }

    private static boolean isQuota(int quota) {
        return quota >= 1 && quota <= MOST_QUOTA;
    }

    private static int oneIf(boolean so) {
        return so ? 1 : 0;
    }

    private static int bit(int member) {
        return 1 << member;
    }

    private static boolean holds(int set, int member) {
        return (set & bit(member)) != 0;
    }

    private static int factorial(int number) {
        return number >= 0 && number < FACTORIALS.length ? FACTORIALS[number] : 0;
    }

    /** At least 1, so that it can divide. */
    private static int greatestDivisor(int one, int two) {
        int divisor = one;
        int rest = two;
        // Euclid's steps for two ints are fewer than 50
        for (int step = 0; step < 64 && rest != 0; step++) {
            int next = divisor % rest;
            divisor = rest;
            rest = next;
        }
        return Math.max(divisor, 1);
    }

    /** All that undo and the snapshot bring back: the council and its ballots. */
    private static final class State {
        private int members;
        private int quota = 1;
        private int vetoes;
        private final int[] weights = new int[MOST_MEMBERS];
        /** For each member the set of the members of its bloc. */
        private final int[] blocs = new int[MOST_MEMBERS];
        private final int[] swingBallots = new int[MOST_MEMBERS];
        private final Ballots ballots = new Ballots();

        void copyFrom(State from) {
            members = from.members;
            quota = from.quota;
            vetoes = from.vetoes;
            System.arraycopy(from.weights, 0, weights, 0, MOST_MEMBERS);
            System.arraycopy(from.blocs, 0, blocs, 0, MOST_MEMBERS);
            System.arraycopy(from.swingBallots, 0, swingBallots, 0, MOST_MEMBERS);
            ballots.copyFrom(from.ballots);
        }

        boolean has(int member) {
            return member >= 0 && member < members;
        }

        int everyone() {
            return (1 << members) - 1;
        }

        int append(int weight) {
            int member = members;
            if (member < MOST_MEMBERS) {
                weights[member] = weight;
                blocs[member] = bit(member);
                swingBallots[member] = 0;
                members++;
            }
            return member;
        }

        void drop(int member) {
            for (int later = member + 1; later < members; later++) {
                weights[later - 1] = weights[later];
                blocs[later - 1] = blocs[later];
                swingBallots[later - 1] = swingBallots[later];
            }
            members--;
            for (int left = 0; left < members; left++) {
                blocs[left] = closeUp(blocs[left], member);
            }
            vetoes = closeUp(vetoes, member);
        }

        /** The set without the member, when those behind it have come one number earlier. */
        private static int closeUp(int set, int member) {
            int below = bit(member) - 1;
            return (set & below) | ((set >> 1) & ~below);
        }

        void makeBloc(int set) {
            for (int member = 0; member < members; member++) {
                if (holds(set, member)) {
                    blocs[member] = set;
                }
            }
        }

        boolean isLowest(int member) {
            return lowestBeside(member) == member;
        }

        int lowestBeside(int member) {
            for (int other = 0; other < member; other++) {
                if (holds(blocs[member], other)) {
                    return other;
                }
            }
            return member;
        }

        int blocCount() {
            int count = 0;
            for (int member = 0; member < members; member++) {
                if (isLowest(member)) {
                    count++;
                }
            }
            return count;
        }

        int leaderOf(int member) {
            int leader = lowestBeside(member);
            for (int other = leader + 1; other < members; other++) {
                if (holds(blocs[member], other) && weights[other] > weights[leader]) {
                    leader = other;
                }
            }
            return leader;
        }

        int weightOf(int set) {
            int sum = 0;
            for (int member = 0; member < members; member++) {
                if (holds(set, member)) {
                    sum += weights[member];
                }
            }
            return sum;
        }

        int wholeBlocsIn(int set) {
            int whole = 0;
            for (int member = 0; member < members; member++) {
                if ((blocs[member] & ~set) == 0) {
                    whole |= bit(member);
                }
            }
            return whole;
        }

        /** A set of whole blocs has each bloc with a veto if it has each member with one. */
        boolean isWinning(int coalition) {
            return weightOf(coalition) >= quota && (vetoes & ~coalition) == 0;
        }

        void hold(Text text, int start) {
            int plus = 0;
            int dissenters = 0;
            for (int member = 0; member < members; member++) {
                char leading = text.at(start + leaderOf(member));
                if (leading == '+') {
                    plus |= bit(member);
                }
                if (text.at(start + member) != leading) {
                    dissenters++;
                }
            }
            boolean passes = isWinning(plus);
            tellSwings(plus, passes);
            ballots.add(passes, weightOf(plus), dissenters);
        }

        private void tellSwings(int plus, boolean passes) {
            for (int member = 0; member < members; member++) {
                if (isWinning(plus ^ blocs[member]) != passes) {
                    swingBallots[member]++;
                }
            }
        }
    }

    /** How the ballots went; of the latest ones, in more detail, the latest first. */
    private static final class Ballots {
        private int held;
        private int passed;
        private final int[] outcomes = new int[KNOWN_BALLOTS];
        private final int[] plusWeights = new int[KNOWN_BALLOTS];
        private final int[] dissenters = new int[KNOWN_BALLOTS];

        void copyFrom(Ballots from) {
            held = from.held;
            passed = from.passed;
            System.arraycopy(from.outcomes, 0, outcomes, 0, KNOWN_BALLOTS);
            System.arraycopy(from.plusWeights, 0, plusWeights, 0, KNOWN_BALLOTS);
            System.arraycopy(from.dissenters, 0, dissenters, 0, KNOWN_BALLOTS);
        }

        void add(boolean passes, int plusWeight, int dissenting) {
            held++;
            passed += oneIf(passes);
            putFirst(outcomes, oneIf(passes));
            putFirst(plusWeights, plusWeight);
            putFirst(dissenters, dissenting);
        }

        private static void putFirst(int[] row, int value) {
            for (int place = row.length - 1; place > 0; place--) {
                row[place] = row[place - 1];
            }
            if (row.length > 0) {
                row[0] = value;
            }
        }
    }

    /** The states before the latest acts, the oldest first. */
    private static final class History {
        private final State[] states = new State[MOST_STATES];
        private int size;

        History() {
            for (int place = 0; place < MOST_STATES; place++) {
                states[place] = new State();
            }
        }

        void add(State state) {
            if (size == MOST_STATES) {
                dropOldest();
            }
            states[size].copyFrom(state);
            size++;
        }

        /** The dropped state's object goes to the end, where it is written anew. */
        private void dropOldest() {
            State oldest = states[0];
            for (int place = 1; place < MOST_STATES; place++) {
                states[place - 1] = states[place];
            }
            states[MOST_STATES - 1] = oldest;
            size--;
        }

        void takeLatest(State into) {
            if (size > 0) {
                size--;
                into.copyFrom(states[size]);
            }
        }
    }

    /** Apart from State, as undo and the snapshot leave the text alone. */
    private static final class Text {
        private final char[] characters = new char[MOST_CHARACTERS];
        private int length;

        void append(char character) {
            if (length < MOST_CHARACTERS) {
                characters[length] = character;
                length++;
            }
        }

        char at(int index) {
            return index >= 0 && index < length ? characters[index] : '0';
        }

        int fault(int members) {
            if (members == 0) {
                return 0;
            }
            int signs = 0;
            for (int index = 0; index < length; index++) {
                boolean isEnd = signs == members;
                if (isEnd ? characters[index] != ',' : !isSign(characters[index])) {
                    return index;
                }
                signs = isEnd ? 0 : signs + 1;
            }
            return signs == members ? NO_FAULT : length;
        }

        private static boolean isSign(char character) {
            return character == '+' || character == '-' || character == '0';
        }
    }

    /** The power that the members of one state have, with its quota and with any other. */
    private static final class Power {
        private static final int ALL = MOST_MEMBERS;
        /** No more of the sets of 10 blocs can stand side by side, none within another. */
        private static final int MOST_LEAST = 252;
        private static final int NOT_COUNTED = -1;
        private static final int MEMBER_BITS = 10;
        private static final int WEIGHT_BITS = 9;

        private int members;
        private int quota;
        private int vetoes;
        private int blocCount;
        private int lowest;
        private final int[] blocs = new int[MOST_MEMBERS];
        private final int[] blocWeights = new int[MOST_MEMBERS];
        /** The coalitions as sets of members; the bits of an index are the blocs that the coalition has. */
        private final int[] coalitions = new int[1 << MOST_MEMBERS];
        private final int[] weights = new int[1 << MOST_MEMBERS];
        private int coalitionCount;
        /** For each member, and for ALL, by quota: how many of the coalitions with the member win. */
        private final int[][] winning = new int[MOST_MEMBERS + 1][MOST_QUOTA + 1];
        private final int[] least = new int[MOST_LEAST];
        private int leastCount;

        void workOut(State state) {
            members = state.members;
            quota = state.quota;
            vetoes = state.vetoes;
            lowest = 0;
            for (int member = 0; member < members; member++) {
                blocs[member] = state.blocs[member];
                blocWeights[member] = state.weightOf(state.blocs[member]);
                if (state.isLowest(member)) {
                    lowest |= bit(member);
                }
            }
            blocCount = Integer.bitCount(lowest);
            listCoalitions();
            countWinning();
            leastCount = NOT_COUNTED;
        }

        private void listCoalitions() {
            coalitions[0] = 0;
            weights[0] = 0;
            coalitionCount = 1;
            for (int member = 0; member < members; member++) {
                if (holds(lowest, member)) {
                    repeatCoalitionsWith(member);
                }
            }
        }

        private void repeatCoalitionsWith(int member) {
            int before = coalitionCount;
            for (int index = 0; index < before && before + index < coalitions.length; index++) {
                coalitions[before + index] = coalitions[index] | blocs[member];
                weights[before + index] = weights[index] + blocWeights[member];
                coalitionCount++;
            }
        }

        // A coalition with all vetoes wins with each quota up to its weight.
        private void countWinning() {
            for (int row = 0; row <= ALL; row++) {
                Arrays.fill(winning[row], 0);
            }
            for (int index = 0; index < coalitionCount; index++) {
                if (hasAllVetoes(coalitions[index])) {
                    countAtWeight(coalitions[index], weights[index]);
                }
            }
            for (int row = 0; row <= ALL; row++) {
                for (int at = MOST_QUOTA - 1; at >= 0; at--) {
                    winning[row][at] += winning[row][at + 1];
                }
            }
        }

        private void countAtWeight(int coalition, int weight) {
            if (weight < 0 || weight > MOST_QUOTA) {
                return;
            }
            winning[ALL][weight]++;
            for (int member = 0; member < members; member++) {
                if (holds(coalition, member)) {
                    winning[member][weight]++;
                }
            }
        }

        private boolean hasAllVetoes(int coalition) {
            return (vetoes & ~coalition) == 0;
        }

        private boolean isWinning(int coalition, int weight) {
            return weight >= quota && hasAllVetoes(coalition);
        }

        int winningCoalitions(int atQuota) {
            return winning[ALL][atQuota];
        }

        // With its bloc added a coalition that wins still wins, so the others that win with it are the swings.
        int swings(int member, int atQuota) {
            int with = winning[member][atQuota];
            int without = winning[ALL][atQuota] - with;
            return with - without;
        }

        int swingsOfAll(int atQuota) {
            int sum = 0;
            for (int member = 0; member < members; member++) {
                if (holds(lowest, member)) {
                    sum += swings(member, atQuota);
                }
            }
            return sum;
        }

        boolean isDummy(int member, int atQuota) {
            return swings(member, atQuota) == 0;
        }

        boolean isBlocker(int member, int atQuota) {
            return winning[ALL][atQuota] > 0 && winning[member][atQuota] == winning[ALL][atQuota];
        }

        boolean isDictator(int member) {
            if (!isWinning(blocs[member], blocWeights[member])) {
                return false;
            }
            for (int other = 0; other < members; other++) {
                if (!holds(blocs[member], other) && !isDummy(other, quota)) {
                    return false;
                }
            }
            return true;
        }

        int dummies(int atQuota) {
            int count = 0;
            for (int member = 0; member < members; member++) {
                if (holds(lowest, member) && isDummy(member, atQuota)) {
                    count++;
                }
            }
            return count;
        }

        int blockers(int atQuota) {
            int count = 0;
            for (int member = 0; member < members; member++) {
                if (holds(lowest, member) && isBlocker(member, atQuota)) {
                    count++;
                }
            }
            return count;
        }

        int orders(int member) {
            int sum = 0;
            for (int index = 0; index < coalitionCount; index++) {
                if (hasSwing(member, index)) {
                    int ahead = Integer.bitCount(index);
                    sum += factorial(ahead) * factorial(blocCount - 1 - ahead);
                }
            }
            return sum;
        }

        private boolean hasSwing(int member, int index) {
            int coalition = coalitions[index];
            int weight = weights[index];
            return !holds(coalition, member)
                && !isWinning(coalition, weight)
                && isWinning(coalition | blocs[member], weight + blocWeights[member]);
        }

        /** How far power and weight are apart, times the sum of all weights and the sum of all swings. */
        long distance(int atQuota) {
            int allSwings = swingsOfAll(atQuota);
            int allWeights = weights[coalitionCount - 1];
            long sum = 0;
            for (int member = 0; member < members; member++) {
                if (holds(lowest, member)) {
                    sum += Math.abs(swings(member, atQuota) * allWeights - blocWeights[member] * allSwings);
                }
            }
            return sum;
        }

        int leastCoalitions() {
            if (leastCount == NOT_COUNTED) {
                listLeast();
            }
            return leastCount;
        }

        private void listLeast() {
            leastCount = 0;
            for (int index = 0; index < coalitionCount; index++) {
                if (isLeast(coalitions[index], weights[index]) && leastCount < MOST_LEAST) {
                    insertLeast(sortingKey(Integer.bitCount(index), weights[index], coalitions[index]));
                }
            }
        }

        private boolean isLeast(int coalition, int weight) {
            if (!isWinning(coalition, weight)) {
                return false;
            }
            for (int member = 0; member < members; member++) {
                if (holds(coalition, member) && isWinning(coalition & ~blocs[member], weight - blocWeights[member])) {
                    return false;
                }
            }
            return true;
        }

        // Keys have the order of the least coalitions, and tell all that is asked of one.
        private static int sortingKey(int blocsInIt, int weight, int coalition) {
            return (((blocsInIt << WEIGHT_BITS) | weight) << MEMBER_BITS) | coalition;
        }

        private void insertLeast(int key) {
            int place = leastCount;
            while (place > 0 && least[place - 1] > key) {
                least[place] = least[place - 1];
                place--;
            }
            least[place] = key;
            leastCount++;
        }

        int ofLeast(int rank, int what) {
            int key = least[rank];
            switch (what) {
                case 0: return key & ((1 << MEMBER_BITS) - 1);
                case 1: return key >> (MEMBER_BITS + WEIGHT_BITS);
                default: return (key >> MEMBER_BITS) & ((1 << WEIGHT_BITS) - 1);
            }
        }
    }
}
