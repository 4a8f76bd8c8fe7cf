import java.util.ArrayList;
import java.util.List;

/**
 * Long runs with amounts up to the greatest, beside a model that holds one state of debts and sends
 * payments through it, and finds the least sum of debts by taking rings out of it.
 */
public final class FlowTest {
    private static final int MEMBERS = 7;

    private final Dice dice;
    private final String name;
    private final int largest;
    private final int members;
    private final Net network = new Net();
    private final int[][] trust = new int[MEMBERS][MEMBERS];
    // b[u][v]: what u owes v; b[v][u] is the same below 0.
    private int[][] b = new int[MEMBERS][MEMBERS];
    private final List<int[]> list = new ArrayList<>();

    private FlowTest(int seed) {
        dice = new Dice(7000 + seed);
        name = "run " + seed + ": ";
        largest = new int[] {3, 20, 300, 1000}[seed % 4];
        members = 3 + seed / 4 % 5;
    }

    public static void main(String[] args) {
        for (int seed = 1; seed <= 200; seed++) {
            FlowTest test = new FlowTest(seed);
            // To the last call that the document speaks of; some rounds make two.
            for (int round = 0; test.network.left() > 1; round++) {
                test.oneCall(round);
            }
            test.lastCall();
        }
        Check.end();
    }

    private void oneCall(int round) {
        int u = member();
        int v = member();
        // Much trust at first, so that there is something to pay with.
        int kind = round < 3 * members ? 0 : dice.roll(16);
        switch (kind) {
            case 0: trust(u, v, dice.between(-1, largest)); break;
            case 1: withdraw(u, v); break;
            case 2:
            case 3:
            case 4:
            case 5: pay(u, v); break;
            case 6:
            case 7: gather(u, v); break;
            case 8: clear(); break;
            case 9: if (list.size() >= 5) { forget(); } break;
            case 10: position(u); break;
            case 11: trustedAndMost(u, v); break;
            case 12: spread(u, dice.between(-1, 128)); break;
            case 13: leastAndGreatest(u, v); break;
            case 14: debts(); break;
            default: open(); break;
        }
    }

    private void lastCall() {
        if (network.left() == 1) {
            debts();
        }
    }

    private int member() {
        return dice.roll(20) == 0 ? dice.between(-1, 7) : dice.roll(members);
    }

    private static boolean wrong(int u, int v) {
        return u < 0 || u >= MEMBERS || v < 0 || v >= MEMBERS || u == v;
    }

    private static String call(String method, int u, int v, int amount) {
        return method + "(" + u + ", " + v + ", " + amount + ")";
    }

    private void trust(int u, int v, int amount) {
        int want = wrong(u, v) ? -1 : amount < 0 || trust[u][v] + amount > 1000 ? -2 : trust[u][v] + amount;
        Check.due(name + call("trust", u, v, amount), network.trust(u, v, amount), want);
        if (want >= 0) {
            trust[u][v] = want;
        }
    }

    private void withdraw(int u, int v) {
        if (wrong(u, v)) {
            Check.due(name + call("withdraw", u, v, 0), network.withdraw(u, v, 0), -1);
            return;
        }
        int amount = dice.between(-1, trust[u][v] + 1);
        int want = -2;
        if (amount >= 0 && amount <= trust[u][v]) {
            int over = b[v][u] - (trust[u][v] - amount);
            want = over <= 0 || leadAround(v, u, over) ? trust[u][v] - amount : -3;
        }
        Check.due(name + call("withdraw", u, v, amount), network.withdraw(u, v, amount), want);
        if (want >= 0) {
            trust[u][v] = want;
        }
    }

    /** Makes what v owes u less by an amount that goes from v to u over others. */
    private boolean leadAround(int v, int u, int amount) {
        Flow flow = flow(MEMBERS);
        flow.room[v][u] = 0;
        flow.room[u][v] = 0;
        if (flow.send(v, u, amount) < amount) {
            return false;
        }
        int left = b[v][u] - amount;
        take(flow);
        b[v][u] = left;
        b[u][v] = -left;
        return true;
    }

    private void pay(int u, int v) {
        if (wrong(u, v)) {
            Check.due(name + call("pay", u, v, 0), network.pay(u, v, 0), -1);
            return;
        }
        int most = flow(MEMBERS).send(u, v, Integer.MAX_VALUE);
        int[] choices = {most, most + 1, most / 2, dice.between(-1, most + 1), dice.roll(most / 4 + 1)};
        int amount = choices[dice.roll(choices.length)];
        int want = amount < 0 ? -2 : amount > most ? -3 : positionOf(u) - amount;
        Check.due(name + call("pay", u, v, amount), network.pay(u, v, amount), want);
        if (amount >= 0 && amount <= most) {
            Flow flow = flow(MEMBERS);
            flow.send(u, v, amount);
            take(flow);
        }
    }

    private void gather(int u, int v) {
        int amount = dice.roll(12) == 0 ? dice.between(-1, 10001) : dice.roll(largest + 1);
        int want = wrong(u, v) ? -1 : amount < 0 || amount > 10000 ? -2 : list.size() == 6 ? -3 : list.size() + 1;
        Check.due(name + call("gather", u, v, amount), network.gather(u, v, amount), want);
        if (want > 0) {
            list.add(new int[] {u, v, amount});
        }
    }

    private void clear() {
        int[] moved = new int[MEMBERS];
        for (int[] payment : list) {
            moved[payment[0]] += payment[2];
            moved[payment[1]] -= payment[2];
        }
        Flow flow = flow(MEMBERS + 2);
        int all = 0;
        for (int u = 0; u < MEMBERS; u++) {
            flow.room[MEMBERS][u] = Math.max(0, moved[u]);
            flow.room[u][MEMBERS + 1] = Math.max(0, -moved[u]);
            all += Math.max(0, moved[u]);
        }
        boolean can = flow.send(MEMBERS, MEMBERS + 1, all) == all;
        Check.due(name + "clear()", network.clear(), can ? list.size() : -3);
        if (can) {
            take(flow);
            list.clear();
        }
    }

    private void forget() {
        Check.due(name + "forget()", network.forget(), list.size());
        list.clear();
    }

    private void position(int u) {
        int want = u < 0 || u >= MEMBERS ? 0 : positionOf(u);
        Check.due(name + "position(" + u + ")", network.position(u), want);
    }

    private void trustedAndMost(int u, int v) {
        boolean no = wrong(u, v);
        Check.due(name + call("trusted", u, v, 0), network.trusted(u, v), no ? -1 : trust[u][v]);
        int most = no ? -1 : flow(MEMBERS).send(u, v, Integer.MAX_VALUE);
        Check.due(name + call("most", u, v, 0), network.most(u, v), most);
    }

    private void spread(int u, int set) {
        int want = -1;
        if (u >= 0 && u < MEMBERS && set >= 1 && set <= 127 && (set >> u & 1) == 0) {
            Flow flow = flow(MEMBERS + 1);
            for (int v = 0; v < MEMBERS; v++) {
                flow.room[v][MEMBERS] = (set >> v & 1) == 1 ? 1000000 : 0;
            }
            want = flow.send(u, MEMBERS, Integer.MAX_VALUE);
        }
        Check.due(name + "spread(" + u + ", " + set + ")", network.spread(u, set), want);
    }

    private void leastAndGreatest(int u, int v) {
        int least = -100000;
        int greatest = -100000;
        if (!wrong(u, v) && u < v) {
            least = Math.max(-trust[u][v], b[u][v] - around(u, v));
            greatest = Math.min(trust[v][u], b[u][v] + around(v, u));
        }
        Check.due(name + call("leastDebt", u, v, 0), network.leastDebt(u, v), least);
        Check.due(name + call("greatestDebt", u, v, 0), network.greatestDebt(u, v), greatest);
    }

    private int around(int u, int v) {
        Flow flow = flow(MEMBERS);
        flow.room[u][v] = 0;
        flow.room[v][u] = 0;
        return flow.send(u, v, Integer.MAX_VALUE);
    }

    private void debts() {
        while (takeOutOneRing()) {
            // Each ring taken out makes the sum less, so this ends.
        }
        int sum = 0;
        for (int u = 0; u < MEMBERS; u++) {
            for (int v = u + 1; v < MEMBERS; v++) {
                sum += Math.abs(b[u][v]);
            }
        }
        Check.due(name + "debts()", network.debts(), sum);
    }

    /** Looks for a ring round which debts can be shifted so that their sum gets less. */
    private boolean takeOutOneRing() {
        int[] cost = new int[MEMBERS];
        int[] came = new int[MEMBERS];
        int changed = -1;
        for (int pass = 0; pass < MEMBERS; pass++) {
            changed = -1;
            for (int u = 0; u < MEMBERS; u++) {
                for (int v = 0; v < MEMBERS; v++) {
                    if (u != v && shiftable(u, v) > 0 && cost[u] + shiftCost(u, v) < cost[v]) {
                        cost[v] = cost[u] + shiftCost(u, v);
                        came[v] = u;
                        changed = v;
                    }
                }
            }
        }
        if (changed < 0) {
            return false;
        }
        for (int i = 0; i < MEMBERS; i++) {
            changed = came[changed];
        }
        int amount = Integer.MAX_VALUE;
        int v = changed;
        do {
            amount = Math.min(amount, shiftable(came[v], v));
            v = came[v];
        } while (v != changed);
        do {
            b[came[v]][v] += amount;
            b[v][came[v]] -= amount;
            v = came[v];
        } while (v != changed);
        return true;
    }

    private int shiftCost(int u, int v) {
        return b[u][v] < 0 ? -1 : 1;
    }

    private int shiftable(int u, int v) {
        return b[u][v] < 0 ? -b[u][v] : trust[v][u] - b[u][v];
    }

    private void open() {
        int[] found = new int[MEMBERS * MEMBERS];
        for (int u = 0; u < MEMBERS; u++) {
            for (int v = 0; v < MEMBERS; v++) {
                found[u * MEMBERS + v] = u == v ? Integer.MIN_VALUE : flow(MEMBERS).send(u, v, Integer.MAX_VALUE);
            }
        }
        int amount = Math.max(-1, found[dice.roll(found.length)] + dice.between(0, 1));
        int want = 0;
        for (int most : found) {
            want += most != Integer.MIN_VALUE && most >= amount ? 1 : 0;
        }
        Check.due(name + "open(" + amount + ")", network.open(amount), want);
    }

    private int positionOf(int u) {
        int sum = 0;
        for (int v = 0; v < MEMBERS; v++) {
            sum -= b[u][v];
        }
        return sum;
    }

    /** What each member could owe each other one more than now. */
    private Flow flow(int places) {
        Flow flow = new Flow(places);
        for (int u = 0; u < MEMBERS; u++) {
            for (int v = 0; v < MEMBERS; v++) {
                flow.room[u][v] = u == v ? 0 : trust[v][u] - b[u][v];
            }
        }
        return flow;
    }

    private void take(Flow flow) {
        int[][] after = new int[MEMBERS][MEMBERS];
        for (int u = 0; u < MEMBERS; u++) {
            for (int v = 0; v < MEMBERS; v++) {
                after[u][v] = u == v ? 0 : trust[v][u] - flow.room[u][v];
            }
        }
        b = after;
    }
}
