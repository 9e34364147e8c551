import java.math.BigInteger;
import java.util.ArrayDeque;
import java.util.ArrayList;
import java.util.Comparator;
import java.util.Deque;
import java.util.HashSet;
import java.util.List;
import java.util.Set;

// The document in its plainest form, for ModelTests: nothing is kept that can be counted again.
final class PlainCouncil {
    private static final int UNKNOWN = -1;
    private static final int BAD_VALUE = -2;
    private static final int FULL = -3;
    private static final int NONE = -5;

    private record Member(int weight, boolean veto, int blocName, int swingBallots) {
        Member withWeight(int other) {
            return new Member(other, veto, blocName, swingBallots);
        }

        Member withVeto(boolean other) {
            return new Member(weight, other, blocName, swingBallots);
        }

        Member withBloc(int other) {
            return new Member(weight, veto, other, swingBallots);
        }

        Member withOneMore() {
            return new Member(weight, veto, blocName, swingBallots + 1);
        }
    }

    private record Ballot(boolean passed, int weight, int dissenters) {
    }

    private record State(List<Member> members, int quota, List<Ballot> ballots) {
    }

    private List<Member> members = new ArrayList<>();
    private int quota = 1;
    private List<Ballot> ballots = new ArrayList<>();
    private final Deque<State> history = new ArrayDeque<>();
    private State snapshot = null;
    private String text = "";
    private int names = 0;

    private State state() {
        return new State(List.copyOf(members), quota, List.copyOf(ballots));
    }

    private void become(State state) {
        members = new ArrayList<>(state.members());
        quota = state.quota();
        ballots = new ArrayList<>(state.ballots());
    }

    private void record() {
        history.addLast(state());
        if (history.size() > 4) {
            history.removeFirst();
        }
    }

    private boolean isMember(int m) {
        return m >= 0 && m < members.size();
    }

    // the blocs, each with its members from the lowest on, in the order of their lowest members
    private List<List<Integer>> blocs() {
        List<List<Integer>> blocs = new ArrayList<>();
        for (int m = 0; m < members.size(); m++) {
            List<Integer> mine = null;
            for (List<Integer> bloc : blocs) {
                if (members.get(bloc.get(0)).blocName() == members.get(m).blocName()) {
                    mine = bloc;
                }
            }
            if (mine == null) {
                mine = new ArrayList<>();
                blocs.add(mine);
            }
            mine.add(m);
        }
        return blocs;
    }

    private int blocOf(int m) {
        List<List<Integer>> blocs = blocs();
        for (int b = 0; b < blocs.size(); b++) {
            if (blocs.get(b).contains(m)) {
                return b;
            }
        }
        throw new IllegalStateException("a member without a bloc");
    }

    private int weight(List<Integer> bloc) {
        return bloc.stream().mapToInt(m -> members.get(m).weight()).sum();
    }

    private int allWeights() {
        return members.stream().mapToInt(Member::weight).sum();
    }

    // Blocs, their weights and vetoes, taken out once for the many coalitions that are tried.
    private final class Table {
        final List<List<Integer>> blocs = blocs();
        final int n = blocs.size();
        final int[] weights = new int[n];
        final boolean[] vetoes = new boolean[n];
        final int atQuota;

        Table(int atQuota) {
            this.atQuota = atQuota;
            for (int b = 0; b < n; b++) {
                weights[b] = weight(blocs.get(b));
                vetoes[b] = blocs.get(b).stream().anyMatch(m -> members.get(m).veto());
            }
        }

        int weightOf(int coalition) {
            int sum = 0;
            for (int b = 0; b < n; b++) {
                sum += (coalition >> b & 1) * weights[b];
            }
            return sum;
        }

        boolean wins(int coalition) {
            for (int b = 0; b < n; b++) {
                if (vetoes[b] && (coalition >> b & 1) == 0) {
                    return false;
                }
            }
            return weightOf(coalition) >= atQuota;
        }

        int winning() {
            int count = 0;
            for (int c = 0; c < 1 << n; c++) {
                count += wins(c) ? 1 : 0;
            }
            return count;
        }

        int swings(int bloc) {
            int count = 0;
            for (int c = 0; c < 1 << n; c++) {
                if ((c >> bloc & 1) == 0 && !wins(c) && wins(c | 1 << bloc)) {
                    count++;
                }
            }
            return count;
        }

        int allSwings() {
            int sum = 0;
            for (int b = 0; b < n; b++) {
                sum += swings(b);
            }
            return sum;
        }

        boolean blocks(int bloc) {
            boolean any = false;
            for (int c = 0; c < 1 << n; c++) {
                if (wins(c)) {
                    any = true;
                    if ((c >> bloc & 1) == 0) {
                        return false;
                    }
                }
            }
            return any;
        }

        boolean dictates(int bloc) {
            for (int b = 0; b < n; b++) {
                if (b != bloc && swings(b) != 0) {
                    return false;
                }
            }
            return wins(1 << bloc);
        }

        // goes through the orders themselves, one after the other, unless there are too many
        long orders(int bloc) {
            if (n <= 7) {
                return ordersFrom(0, bloc);
            }
            long sum = 0;
            for (int c = 0; c < 1 << n; c++) {
                if ((c >> bloc & 1) == 0 && !wins(c) && wins(c | 1 << bloc)) {
                    sum += factorial(Integer.bitCount(c)) * factorial(n - 1 - Integer.bitCount(c));
                }
            }
            return sum;
        }

        private long ordersFrom(int ahead, int bloc) {
            if ((ahead >> bloc & 1) == 1) {
                int without = ahead & ~(1 << bloc);
                return !wins(without) && wins(ahead) ? factorial(n - Integer.bitCount(ahead)) : 0;
            }
            long sum = 0;
            for (int b = 0; b < n; b++) {
                if ((ahead >> b & 1) == 0) {
                    sum += ordersFrom(ahead | 1 << b, bloc);
                }
            }
            return sum;
        }

        int memberBits(int coalition) {
            int bits = 0;
            for (int b = 0; b < n; b++) {
                if ((coalition >> b & 1) == 1) {
                    for (int m : blocs.get(b)) {
                        bits |= 1 << m;
                    }
                }
            }
            return bits;
        }

        List<int[]> least() {
            List<int[]> least = new ArrayList<>();
            for (int c = 0; c < 1 << n; c++) {
                boolean is = wins(c);
                for (int b = 0; b < n; b++) {
                    is = is && ((c >> b & 1) == 0 || !wins(c & ~(1 << b)));
                }
                if (is) {
                    least.add(new int[] {memberBits(c), Integer.bitCount(c), weightOf(c)});
                }
            }
            least.sort(Comparator.<int[]>comparingInt(c -> c[1]).thenComparingInt(c -> c[2]).thenComparingInt(c -> c[0]));
            return least;
        }

        // the sum of the distances between shares, as a fraction of two numbers
        BigInteger[] unfairness() {
            BigInteger upper = BigInteger.ZERO;
            BigInteger lower = BigInteger.ONE;
            long all = allSwings();
            long sum = allWeights();
            for (int b = 0; b < n; b++) {
                BigInteger apart = BigInteger.valueOf(Math.abs(swings(b) * sum - weights[b] * all));
                BigInteger whole = BigInteger.valueOf(all * sum);
                upper = upper.multiply(whole).add(apart.multiply(lower));
                lower = lower.multiply(whole);
                BigInteger divisor = upper.gcd(lower);
                upper = upper.divide(divisor);
                lower = lower.divide(divisor);
            }
            return new BigInteger[] {upper, lower};
        }
    }

    private static long factorial(int number) {
        return number == 0 ? 1 : number * factorial(number - 1);
    }

    int addMember(int weight) {
        if (weight < 0 || weight > 50) {
            return BAD_VALUE;
        }
        if (members.size() == 10) {
            return FULL;
        }
        record();
        members.add(new Member(weight, false, names++, 0));
        return members.size() - 1;
    }

    int removeMember(int m) {
        if (!isMember(m)) {
            return UNKNOWN;
        }
        record();
        members.remove(m);
        return members.size();
    }

    int setWeight(int m, int weight) {
        if (!isMember(m)) {
            return UNKNOWN;
        }
        if (weight < 0 || weight > 50) {
            return BAD_VALUE;
        }
        int was = members.get(m).weight();
        if (was == weight) {
            return NONE;
        }
        record();
        members.set(m, members.get(m).withWeight(weight));
        return was;
    }

    int setVeto(int m, boolean has) {
        if (!isMember(m)) {
            return UNKNOWN;
        }
        if (members.get(m).veto() == has) {
            return NONE;
        }
        record();
        members.set(m, members.get(m).withVeto(has));
        return (int) members.stream().filter(Member::veto).count();
    }

    int setQuota(int to) {
        if (to < 1 || to > 500) {
            return BAD_VALUE;
        }
        if (to == quota) {
            return NONE;
        }
        record();
        int was = quota;
        quota = to;
        return was;
    }

    int join(int m, int other) {
        if (!isMember(m) || !isMember(other)) {
            return UNKNOWN;
        }
        if (blocOf(m) == blocOf(other)) {
            return NONE;
        }
        record();
        int from = members.get(other).blocName();
        int to = members.get(m).blocName();
        members.replaceAll(each -> each.blocName() == from ? each.withBloc(to) : each);
        return blocs().get(blocOf(m)).size();
    }

    int leave(int m) {
        if (!isMember(m)) {
            return UNKNOWN;
        }
        int size = blocs().get(blocOf(m)).size();
        if (size == 1) {
            return NONE;
        }
        record();
        members.set(m, members.get(m).withBloc(names++));
        return size - 1;
    }

    int type(char character) {
        if (text.length() == 60) {
            return FULL;
        }
        text += character;
        return text.length();
    }

    int clearText() {
        int length = text.length();
        text = "";
        return length;
    }

    // whether more characters could make of these a text of ballots
    private boolean isStart(String start) {
        String[] parts = start.split(",", -1);
        for (int p = 0; p < parts.length; p++) {
            boolean whole = p < parts.length - 1;
            if (!parts[p].matches("[-+0]*") || parts[p].length() > members.size()
                || whole && parts[p].length() < members.size()) {
                return false;
            }
        }
        return true;
    }

    private int fault() {
        if (members.isEmpty()) {
            return 0;
        }
        for (int index = 0; index < text.length(); index++) {
            if (!isStart(text.substring(0, index + 1))) {
                return index;
            }
        }
        String last = text.substring(text.lastIndexOf(',') + 1);
        return last.length() == members.size() ? -1 : text.length();
    }

    int vote() {
        if (fault() >= 0) {
            return -100 - fault();
        }
        record();
        int passed = 0;
        for (String signs : text.split(",")) {
            passed += holds(signs) ? 1 : 0;
        }
        return passed;
    }

    private int leader(List<Integer> bloc) {
        int best = bloc.get(0);
        for (int m : bloc) {
            if (members.get(m).weight() > members.get(best).weight()) {
                best = m;
            }
        }
        return best;
    }

    private boolean holds(String signs) {
        Table table = new Table(quota);
        int plus = 0;
        int dissenters = 0;
        for (int b = 0; b < table.n; b++) {
            char sign = signs.charAt(leader(table.blocs.get(b)));
            plus |= sign == '+' ? 1 << b : 0;
            dissenters += (int) table.blocs.get(b).stream().filter(m -> signs.charAt(m) != sign).count();
        }
        for (int b = 0; b < table.n; b++) {
            boolean with = table.wins(plus | 1 << b);
            boolean without = table.wins(plus & ~(1 << b));
            if (with != without) {
                for (int m : table.blocs.get(b)) {
                    members.set(m, members.get(m).withOneMore());
                }
            }
        }
        ballots.add(new Ballot(table.wins(plus), table.weightOf(plus), dissenters));
        return table.wins(plus);
    }

    int undo() {
        if (history.isEmpty()) {
            return NONE;
        }
        become(history.removeLast());
        return history.size();
    }

    int keep() {
        snapshot = state();
        return members.size();
    }

    int restore() {
        if (snapshot == null) {
            return NONE;
        }
        record();
        become(snapshot);
        return members.size();
    }

    private List<Integer> byRank() {
        Table table = new Table(quota);
        int[] swings = new int[table.n];
        for (int b = 0; b < table.n; b++) {
            swings[b] = table.swings(b);
        }
        List<Integer> order = new ArrayList<>();
        for (int m = 0; m < members.size(); m++) {
            order.add(m);
        }
        order.sort(Comparator.<Integer>comparingInt(m -> -swings[blocOf(m)]).thenComparingInt(m -> -members.get(m).weight())
            .thenComparingInt(m -> m));
        return order;
    }

    int member(int m, int what) {
        if (!isMember(m)) {
            return UNKNOWN;
        }
        int bloc = blocOf(m);
        Table table = new Table(quota);
        return switch (what) {
            case 0 -> members.get(m).weight();
            case 1 -> members.get(m).veto() ? 1 : 0;
            case 2 -> table.blocs.get(bloc).get(0);
            case 3 -> table.weights[bloc];
            case 4 -> leader(table.blocs.get(bloc));
            case 5 -> table.swings(bloc);
            case 6 -> (int) table.orders(bloc);
            case 7 -> table.swings(bloc) == 0 ? 1 : 0;
            case 8 -> table.blocks(bloc) ? 1 : 0;
            case 9 -> table.dictates(bloc) ? 1 : 0;
            case 10 -> byRank().indexOf(m);
            case 11 -> members.get(m).swingBallots();
            default -> BAD_VALUE;
        };
    }

    int share(int m, int what) {
        if (!isMember(m)) {
            return UNKNOWN;
        }
        if (what < 0 || what > 3) {
            return BAD_VALUE;
        }
        Table table = new Table(quota);
        if (table.winning() == 0) {
            return NONE;
        }
        BigInteger upper = BigInteger.valueOf(what < 2 ? table.swings(blocOf(m)) : table.orders(blocOf(m)));
        BigInteger lower = BigInteger.valueOf(what < 2 ? table.allSwings() : factorial(table.n));
        return (what % 2 == 0 ? upper : lower).divide(upper.gcd(lower)).intValueExact();
    }

    int wins(int bits) {
        for (int bit = 0; bit < 32; bit++) {
            if ((bits >>> bit & 1) == 1 && bit >= members.size()) {
                return BAD_VALUE;
            }
        }
        Set<Integer> set = new HashSet<>();
        for (int m = 0; m < members.size(); m++) {
            if ((bits >> m & 1) == 1) {
                set.add(m);
            }
        }
        Table table = new Table(quota);
        int coalition = 0;
        for (int b = 0; b < table.n; b++) {
            coalition |= set.containsAll(table.blocs.get(b)) ? 1 << b : 0;
        }
        return table.wins(coalition) ? 1 : 0;
    }

    int leastCoalition(int rank, int what) {
        if (rank < 0 || what < 0 || what > 2) {
            return BAD_VALUE;
        }
        List<int[]> least = new Table(quota).least();
        return rank < least.size() ? least.get(rank)[what] : NONE;
    }

    int ranked(int rank) {
        if (rank < 0) {
            return BAD_VALUE;
        }
        return rank < members.size() ? byRank().get(rank) : NONE;
    }

    int withQuota(int other, int what) {
        if (other < 1 || other > 500 || what < 0 || what > 3) {
            return BAD_VALUE;
        }
        Table table = new Table(other);
        int dummies = 0;
        int blockers = 0;
        for (int b = 0; b < table.n; b++) {
            dummies += table.swings(b) == 0 ? 1 : 0;
            blockers += table.blocks(b) ? 1 : 0;
        }
        return new int[] {dummies, blockers, table.allSwings(), table.winning()}[what];
    }

    int leavesOut(int m, int from) {
        if (!isMember(m)) {
            return UNKNOWN;
        }
        if (from < 1 || from > 500) {
            return BAD_VALUE;
        }
        int bloc = blocOf(m);
        for (int other = from; other <= allWeights(); other++) {
            if (new Table(other).swings(bloc) == 0) {
                return other;
            }
        }
        return NONE;
    }

    int fairest() {
        int best = NONE;
        BigInteger[] least = null;
        for (int other = 1; other <= allWeights(); other++) {
            BigInteger[] here = new Table(other).unfairness();
            if (least == null || here[0].multiply(least[1]).compareTo(least[0].multiply(here[1])) < 0) {
                best = other;
                least = here;
            }
        }
        return best;
    }

    int ballot(int back, int what) {
        if (back < 0 || what < 0 || what > 2) {
            return BAD_VALUE;
        }
        if (back >= 8 || back >= ballots.size()) {
            return NONE;
        }
        Ballot ballot = ballots.get(ballots.size() - 1 - back);
        return new int[] {ballot.passed() ? 1 : 0, ballot.weight(), ballot.dissenters()}[what];
    }

    int count(int what) {
        Table table = new Table(quota);
        return switch (what) {
            case 0 -> members.size();
            case 1 -> table.n;
            case 2 -> quota;
            case 3 -> allWeights();
            case 4 -> table.winning();
            case 5 -> table.least().size();
            case 6 -> table.allSwings();
            case 7 -> withQuota(quota, 0);
            case 8 -> (int) members.stream().filter(Member::veto).count();
            case 9 -> ballots.size();
            case 10 -> (int) ballots.stream().filter(Ballot::passed).count();
            case 11 -> history.size();
            case 12 -> text.length();
            default -> BAD_VALUE;
        };
    }
}
