import java.util.ArrayList;
import java.util.List;

/**
 * A CreditNetwork that lets itself be called 512 times and no more. What later calls answer is free, so
 * a test that asked for it would demand what the document does not promise.
 */
final class Net {
    static final int CALLS = 512;

    private final CreditNetwork network = new CreditNetwork();
    private final List<int[]> changes = new ArrayList<>();
    private int calls = 0;

    int left() {
        return CALLS - calls;
    }

    /** A new object after the same changes, without the asks between them. */
    Net renewed() {
        Net renewed = new Net();
        for (int[] change : changes) {
            renewed.change(change[0], change[1], change[2], change[3]);
        }
        return renewed;
    }

    int trust(int u, int v, int amount) {
        return change(0, u, v, amount);
    }

    int withdraw(int u, int v, int amount) {
        return change(1, u, v, amount);
    }

    int pay(int u, int v, int amount) {
        return change(2, u, v, amount);
    }

    int gather(int u, int v, int amount) {
        return change(3, u, v, amount);
    }

    int clear() {
        return change(4, 0, 0, 0);
    }

    int forget() {
        return change(5, 0, 0, 0);
    }

    int trusted(int u, int v) {
        count();
        return network.trusted(u, v);
    }

    int position(int u) {
        count();
        return network.position(u);
    }

    int most(int u, int v) {
        count();
        return network.most(u, v);
    }

    int spread(int u, int set) {
        count();
        return network.spread(u, set);
    }

    int leastDebt(int u, int v) {
        count();
        return network.leastDebt(u, v);
    }

    int greatestDebt(int u, int v) {
        count();
        return network.greatestDebt(u, v);
    }

    int debts() {
        count();
        return network.debts();
    }

    int open(int amount) {
        count();
        return network.open(amount);
    }

    private int change(int kind, int u, int v, int amount) {
        count();
        changes.add(new int[] {kind, u, v, amount});
        switch (kind) {
            case 0: return network.trust(u, v, amount);
            case 1: return network.withdraw(u, v, amount);
            case 2: return network.pay(u, v, amount);
            case 3: return network.gather(u, v, amount);
            case 4: return network.clear();
            default: return network.forget();
        }
    }

    private void count() {
        calls++;
        if (calls > CALLS) {
            throw new IllegalStateException("the test makes more calls than the document speaks of");
        }
    }
}
