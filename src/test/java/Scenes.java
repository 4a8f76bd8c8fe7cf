import java.util.ArrayList;
import java.util.List;

/** Objects that are some way along, and all that can be seen of an object. */
final class Scenes {
    static final int MEMBERS = 7;
    static final int LOWEST = Integer.MIN_VALUE;
    static final int HIGHEST = Integer.MAX_VALUE;

    /** No members: just outside, far outside, and such that a shift or a product wraps around. */
    static final int[] NO_MEMBERS = {
        -1, 7, 8, -7, 14, 31, 32, 33, 38, 64, -32, -26, 49, 1000, 1 << 30, 1 << 29, -(1 << 30), LOWEST, LOWEST + 1,
        LOWEST + 6, HIGHEST, HIGHEST - 6, 613566757, 1227133514,
    };

    static final String[] NAMES = {
        "a new object", "a list that can not be cleared", "a full list that can be cleared",
        "a full list of the greatest amounts", "the greatest trust, all used",
    };

    private Scenes() {
    }

    static Net make(int scene) {
        Net x = new Net();
        switch (scene) {
            case 1: shortList(x); break;
            case 2: fullList(x); break;
            case 3: greatestList(x); break;
            case 4: greatestTrust(x); break;
            default: break;
        }
        return x;
    }

    private static void shortList(Net x) {
        x.trust(1, 0, 10);
        x.trust(2, 1, 12);
        x.trust(0, 2, 4);
        x.trust(3, 2, 9);
        x.trust(4, 0, 3);
        x.trust(6, 5, 1);
        x.pay(0, 3, 8);
        x.gather(0, 4, 1);
        x.gather(0, 4, 4);
    }

    private static void fullList(Net x) {
        for (int u = 0; u < MEMBERS; u++) {
            x.trust(u, (u + 1) % MEMBERS, 20 + u);
            x.trust(u, (u + 3) % MEMBERS, 5);
        }
        x.pay(1, 0, 11);
        x.pay(6, 4, 7);
        for (int u = 0; u < 6; u++) {
            x.gather(u + 1, u, u + 1);
        }
    }

    private static void greatestList(Net x) {
        x.trust(1, 0, 1000);
        x.pay(0, 1, 1000);
        for (int u = 0; u < 6; u++) {
            x.gather(0, 1, 10000);
        }
    }

    private static void greatestTrust(Net x) {
        for (int u = 0; u < MEMBERS; u++) {
            for (int v = 0; v < MEMBERS; v++) {
                if (u != v) {
                    x.trust(u, v, 1000);
                }
            }
        }
        x.pay(0, 6, 6000);
        x.gather(6, 0, 10000);
        x.gather(1, 2, 4999);
    }

    /**
     * All that can be seen of an object, the list last: what is on it comes to light when there is as
     * much trust as there can be. The object is used up by this, with some 250 calls.
     */
    static List<Integer> look(Net x) {
        List<Integer> seen = new ArrayList<>();
        for (int u = 0; u < MEMBERS; u++) {
            seen.add(x.position(u));
            seen.add(x.spread(u, 127 - (1 << u)));
            seen.add(x.spread(u, 1 << (u + 1) % MEMBERS | 1 << (u + 3) % MEMBERS));
            for (int v = 0; v < MEMBERS; v++) {
                if (u != v) {
                    seen.add(x.trusted(u, v));
                    seen.add(x.most(u, v));
                    seen.add(u < v ? x.leastDebt(u, v) : x.greatestDebt(v, u));
                }
            }
        }
        seen.add(x.debts());
        for (int amount = 0; amount < 13; amount += 3) {
            seen.add(x.open(amount));
        }
        lookAtList(x, seen);
        return seen;
    }

    private static void lookAtList(Net x, List<Integer> seen) {
        for (int u = 0; u < MEMBERS; u++) {
            for (int v = 0; v < MEMBERS; v++) {
                if (u != v) {
                    x.trust(u, v, 1000 - x.trusted(u, v));
                }
            }
        }
        seen.add(x.clear());
        for (int u = 0; u < MEMBERS; u++) {
            seen.add(x.position(u));
        }
        seen.add(x.forget());
        for (int u = 0; u < MEMBERS; u++) {
            seen.add(x.gather(u, (u + 1) % MEMBERS, 1));
        }
    }
}
