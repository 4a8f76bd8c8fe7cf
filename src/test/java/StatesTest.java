import java.util.ArrayList;
import java.util.HashMap;
import java.util.List;
import java.util.Map;

/**
 * The words of the document taken as they stand: every state of debts of a small network is listed,
 * and each answer is looked up among them.
 */
public final class StatesTest {
    private static final int MEMBERS = 7;
    private static final int MOST_STATES = 3000;

    private final Dice dice;
    private final String name;
    private Net network = new Net();
    private final int[][] trust = new int[MEMBERS][MEMBERS];
    private int[] positions = new int[MEMBERS];
    private final List<int[]> list = new ArrayList<>();
    private Map<List<Integer>, Summary> possible;

    /** What the states of debts with the same positions have in common. */
    private static final class Summary {
        final int[][] least = new int[MEMBERS][MEMBERS];
        final int[][] greatest = new int[MEMBERS][MEMBERS];
        int leastSum = Integer.MAX_VALUE;

        Summary() {
            for (int u = 0; u < MEMBERS; u++) {
                for (int v = 0; v < MEMBERS; v++) {
                    least[u][v] = Integer.MAX_VALUE;
                    greatest[u][v] = Integer.MIN_VALUE;
                }
            }
        }

        void add(int[][] b) {
            int sum = 0;
            for (int u = 0; u < MEMBERS; u++) {
                for (int v = u + 1; v < MEMBERS; v++) {
                    least[u][v] = Math.min(least[u][v], b[u][v]);
                    greatest[u][v] = Math.max(greatest[u][v], b[u][v]);
                    sum += Math.abs(b[u][v]);
                }
            }
            leastSum = Math.min(leastSum, sum);
        }
    }

    private StatesTest(int seed) {
        dice = new Dice(seed);
        name = "network " + seed + ": ";
        possible = listStates(trust);
    }

    public static void main(String[] args) {
        for (int seed = 1; seed <= 250; seed++) {
            StatesTest test = new StatesTest(seed);
            // Few members make rings likely; all seven make long ways likely.
            int members = 3 + seed % 5;
            for (int call = 0; call < 40; call++) {
                test.change(members);
                test.compareSome();
            }
            test.compareAll();
        }
        Check.end();
    }

    private static long countStates(int[][] t) {
        long count = 1;
        for (int u = 0; u < MEMBERS; u++) {
            for (int v = u + 1; v < MEMBERS; v++) {
                count *= t[u][v] + t[v][u] + 1;
            }
        }
        return count;
    }

    private static Map<List<Integer>, Summary> listStates(int[][] t) {
        Map<List<Integer>, Summary> found = new HashMap<>();
        long count = countStates(t);
        for (long number = 0; number < count; number++) {
            int[][] b = new int[MEMBERS][MEMBERS];
            int[] p = new int[MEMBERS];
            long rest = number;
            for (int u = 0; u < MEMBERS; u++) {
                for (int v = u + 1; v < MEMBERS; v++) {
                    int range = t[u][v] + t[v][u] + 1;
                    b[u][v] = (int) (rest % range) - t[u][v];
                    rest /= range;
                    p[u] -= b[u][v];
                    p[v] += b[u][v];
                }
            }
            found.computeIfAbsent(key(p), k -> new Summary()).add(b);
        }
        return found;
    }

    private static List<Integer> key(int[] p) {
        List<Integer> key = new ArrayList<>();
        for (int value : p) {
            key.add(value);
        }
        return key;
    }

    private void change(int members) {
        int u = dice.roll(members);
        int v = dice.roll(members);
        int amount = dice.between(-1, 4);
        switch (dice.roll(8)) {
            case 0:
            case 1:
                trust(u, v, Math.min(amount, 3));
                break;
            case 2:
                withdraw(u, v, amount);
                break;
            case 3:
            case 4:
                pay(u, v, amount);
                break;
            case 5:
            case 6:
                gather(u, v, amount);
                break;
            default:
                clearOrForget();
                break;
        }
    }

    private void trust(int u, int v, int amount) {
        int[][] raised = copy(trust);
        raised[u][v] += amount;
        if (u != v && amount > 0 && countStates(raised) > MOST_STATES) {
            return;
        }
        int want = u == v ? -1 : amount < 0 ? -2 : raised[u][v];
        Check.due(name + "trust(" + u + ", " + v + ", " + amount + ")", network.trust(u, v, amount), want);
        if (want >= 0) {
            trust[u][v] = want;
            possible = listStates(trust);
        }
    }

    private void withdraw(int u, int v, int amount) {
        int want;
        Map<List<Integer>, Summary> after = possible;
        if (u == v) {
            want = -1;
        } else if (amount < 0 || amount > trust[u][v]) {
            want = -2;
        } else {
            int[][] lowered = copy(trust);
            lowered[u][v] -= amount;
            after = listStates(lowered);
            want = after.containsKey(key(positions)) ? lowered[u][v] : -3;
        }
        Check.due(name + "withdraw(" + u + ", " + v + ", " + amount + ")", network.withdraw(u, v, amount), want);
        if (want >= 0) {
            trust[u][v] = want;
            possible = after;
        }
    }

    private void pay(int u, int v, int amount) {
        int[] after = positions.clone();
        after[u] -= amount;
        after[v] += amount;
        boolean refused = u == v || amount < 0 || !possible.containsKey(key(after));
        int want = u == v ? -1 : amount < 0 ? -2 : refused ? -3 : after[u];
        Check.due(name + "pay(" + u + ", " + v + ", " + amount + ")", network.pay(u, v, amount), want);
        if (!refused) {
            positions = after;
        }
    }

    private void gather(int u, int v, int amount) {
        int want = u == v ? -1 : amount < 0 ? -2 : list.size() == 6 ? -3 : list.size() + 1;
        Check.due(name + "gather(" + u + ", " + v + ", " + amount + ")", network.gather(u, v, amount), want);
        if (want > 0) {
            list.add(new int[] {u, v, amount});
        }
    }

    private void clearOrForget() {
        int[] after = positions.clone();
        for (int[] payment : list) {
            after[payment[0]] -= payment[2];
            after[payment[1]] += payment[2];
        }
        if (possible.containsKey(key(after))) {
            Check.due(name + "clear()", network.clear(), list.size());
            positions = after;
            list.clear();
        } else {
            Check.due(name + "clear()", network.clear(), -3);
            if (dice.roll(2) == 0) {
                Check.due(name + "forget()", network.forget(), list.size());
                list.clear();
            }
        }
    }

    private void compareSome() {
        Summary now = possible.get(key(positions));
        Check.due(name + "debts()", asked().debts(), now.leastSum);
        int u = dice.roll(MEMBERS);
        int v = dice.roll(MEMBERS);
        comparePair(u, v);
        int set = dice.between(1, 127) & ~(1 << u);
        Check.due(name + "spread(" + u + ", " + set + ")", asked().spread(u, set), set == 0 ? -1 : spread(u, set));
    }

    private void compareAll() {
        int[] open = new int[8];
        for (int u = 0; u < MEMBERS; u++) {
            Check.due(name + "position(" + u + ")", asked().position(u), positions[u]);
            for (int v = 0; v < MEMBERS; v++) {
                comparePair(u, v);
                for (int amount = 0; u != v && amount < open.length; amount++) {
                    open[amount] += spread(u, 1 << v) >= amount ? 1 : 0;
                }
            }
            for (int set = 1; set < 128; set++) {
                int want = (set >> u & 1) == 1 ? -1 : spread(u, set);
                Check.due(name + "spread(" + u + ", " + set + ")", asked().spread(u, set), want);
            }
        }
        for (int amount = 0; amount < open.length; amount++) {
            Check.due(name + "open(" + amount + ")", asked().open(amount), open[amount]);
        }
    }

    private void comparePair(int u, int v) {
        String pair = "(" + u + ", " + v + ")";
        Summary now = possible.get(key(positions));
        Check.due(name + "trusted" + pair, asked().trusted(u, v), u == v ? -1 : trust[u][v]);
        Check.due(name + "most" + pair, asked().most(u, v), u == v ? -1 : spread(u, 1 << v));
        Check.due(name + "leastDebt" + pair, asked().leastDebt(u, v), u < v ? now.least[u][v] : -100000);
        Check.due(name + "greatestDebt" + pair, asked().greatestDebt(u, v), u < v ? now.greatest[u][v] : -100000);
    }

    /** Of all possible positions, those that come from the present ones by payments of u to the set. */
    private int spread(int u, int set) {
        int most = 0;
        for (List<Integer> after : possible.keySet()) {
            boolean comes = true;
            for (int v = 0; v < MEMBERS; v++) {
                int change = after.get(v) - positions[v];
                boolean paid = (set >> v & 1) == 1;
                comes &= v == u || (paid ? change >= 0 : change == 0);
            }
            if (comes) {
                most = Math.max(most, positions[u] - after.get(u));
            }
        }
        return most;
    }

    private Net asked() {
        if (network.left() == 0) {
            network = network.renewed();
        }
        return network;
    }

    private static int[][] copy(int[][] from) {
        int[][] copy = new int[MEMBERS][];
        for (int u = 0; u < MEMBERS; u++) {
            copy[u] = from[u].clone();
        }
        return copy;
    }
}
