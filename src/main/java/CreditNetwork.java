/**
 * A network of members who trust one another for limited amounts, payments that go through it by
 * debts, and what can still be paid.
 *
 * Only the positions matter, so no state of debts is kept. By Hoffman's theorem on flows, positions
 * that sum to 0 are possible exactly if no set of members has together a greater position than the
 * set lets the others owe to it. How far a set is below that bound is called its room here; the
 * positions are possible exactly if no set's room is below 0, and nearly every answer is a least
 * room over some of the 128 sets. A set is the number with the binary digit v for each member v.
 */
public final class CreditNetwork {
    private static final int MEMBERS = 7;
    private static final int PAIRS = 49;
    private static final int SETS = 128;
    private static final int GREATEST_TRUST = 1000;
    private static final int LIST_LENGTH = 6;
    private static final int GREATEST_GATHERED = 10000;

    private static final int WRONG_MEMBERS = -1;
    private static final int WRONG_AMOUNT = -2;
    private static final int REFUSED = -3;
    private static final int NO_DEBT = -100000;

    // A set of 3 and the other 4 have the most pairs between them, 12, each of trust 1000 at most:
    // no more than that can be owed across, and every round settles at least 1 of it.
    private static final int MOST_ROUNDS = 12000;
    private static final int UNREACHED = 1000000;
    private static final int NOBODY = -1;

    // t(u, v) stands at u * MEMBERS + v.
    private final int[] trusts = new int[PAIRS];
    private final int[] positions = new int[MEMBERS];

    private final int[] payers = new int[LIST_LENGTH];
    private final int[] payees = new int[LIST_LENGTH];
    private final int[] amounts = new int[LIST_LENGTH];
    private int gathered;

    // Room to work for debts() alone; nothing in these outlives the call.
    private final int[] owed = new int[PAIRS];
    private final int[] unsettled = new int[MEMBERS];
    private final int[] distances = new int[MEMBERS];
    private final int[] previous = new int[MEMBERS];

    public CreditNetwork() {
        gathered = 0;
    }

    public int trust(int u, int v, int amount) {
        if (!areTwoMembers(u, v)) {
            return WRONG_MEMBERS;
        }
        int pair = u * MEMBERS + v;
        if (amount < 0 || amount > GREATEST_TRUST - trusts[pair]) {
            return WRONG_AMOUNT;
        }
        trusts[pair] += amount;
        return trusts[pair];
    }

    public int withdraw(int u, int v, int amount) {
        if (!areTwoMembers(u, v)) {
            return WRONG_MEMBERS;
        }
        int pair = u * MEMBERS + v;
        if (amount < 0 || amount > trusts[pair]) {
            return WRONG_AMOUNT;
        }
        // The sets that lose room are those with u and without v.
        if (amount > leastRoom(1 << u, 1 << v)) {
            return REFUSED;
        }
        trusts[pair] -= amount;
        return trusts[pair];
    }

    public int pay(int u, int v, int amount) {
        if (!areTwoMembers(u, v)) {
            return WRONG_MEMBERS;
        }
        if (amount < 0) {
            return WRONG_AMOUNT;
        }
        if (amount > most(u, v)) {
            return REFUSED;
        }
        positions[u] -= amount;
        positions[v] += amount;
        return positions[u];
    }

    public int gather(int u, int v, int amount) {
        if (!areTwoMembers(u, v)) {
            return WRONG_MEMBERS;
        }
        if (amount < 0 || amount > GREATEST_GATHERED) {
            return WRONG_AMOUNT;
        }
        if (gathered >= LIST_LENGTH) {
            return REFUSED;
        }
        payers[gathered] = u;
        payees[gathered] = v;
        amounts[gathered] = amount;
        gathered++;
        return gathered;
    }

    public int clear() {
        moveGathered(1);
        if (leastRoom(0, 0) < 0) {
            moveGathered(-1);
            return REFUSED;
        }
        return forget();
    }

    public int forget() {
        int had = gathered;
        gathered = 0;
        return had;
    }

    public int trusted(int u, int v) {
        if (!areTwoMembers(u, v)) {
            return WRONG_MEMBERS;
        }
        return trusts[u * MEMBERS + v];
    }

    public int position(int u) {
        return isMember(u) ? positions[u] : 0;
    }

    public int most(int u, int v) {
        if (!areTwoMembers(u, v)) {
            return WRONG_MEMBERS;
        }
        // A payment takes room from just the sets with v and without u.
        return leastRoom(1 << v, 1 << u);
    }

    public int spread(int u, int set) {
        if (!isMember(u) || set < 1 || set >= SETS || contains(set, u)) {
            return WRONG_MEMBERS;
        }
        // A set that lacks one of the payees does not bound the whole: the share can go to that one.
        return leastRoom(set, 1 << u);
    }

    public int leastDebt(int u, int v) {
        if (!areTwoMembers(u, v) || u > v) {
            return NO_DEBT;
        }
        // To fix b(u, v) at x is to put x in the place of t(v, u): it may fall by most(u, v) at most.
        int lowest = -trusts[u * MEMBERS + v];
        int least = trusts[v * MEMBERS + u] - most(u, v);
        return least < lowest ? lowest : least;
    }

    public int greatestDebt(int u, int v) {
        if (!areTwoMembers(u, v) || u > v) {
            return NO_DEBT;
        }
        // The same from the other side: -x in the place of t(u, v), lowered by most(v, u) at most.
        int highest = trusts[v * MEMBERS + u];
        int greatest = most(v, u) - trusts[u * MEMBERS + v];
        return greatest > highest ? highest : greatest;
    }

    public int debts() {
        settle();
        int sum = 0;
        for (int pair = 0; pair < PAIRS; pair++) {
            sum += owed[pair];
        }
        return sum;
    }

    public int open(int amount) {
        int count = 0;
        for (int u = 0; u < MEMBERS; u++) {
            for (int v = 0; v < MEMBERS; v++) {
                if (u != v && most(u, v) >= amount) {
                    count++;
                }
            }
        }
        return count;
    }

    private static boolean isMember(int u) {
        return u >= 0 && u < MEMBERS;
    }

    private static boolean areTwoMembers(int u, int v) {
        return isMember(u) && isMember(v) && u != v;
    }

    private static boolean contains(int set, int member) {
        return (set >> member & 1) == 1;
    }

    private void moveGathered(int sign) {
        for (int i = 0; i < gathered; i++) {
            positions[payers[i]] -= sign * amounts[i];
            positions[payees[i]] += sign * amounts[i];
        }
    }

    /** The least room of a set that has all members of inside and none of outside. */
    private int leastRoom(int inside, int outside) {
        int least = room(inside);
        for (int set = 0; set < SETS; set++) {
            if ((set & inside) == inside && (set & outside) == 0) {
                int found = room(set);
                least = found < least ? found : least;
            }
        }
        return least;
    }

    private int room(int set) {
        int sum = 0;
        for (int u = 0; u < MEMBERS; u++) {
            if (contains(set, u)) {
                sum += trustOutOf(set, u) - positions[u];
            }
        }
        return sum;
    }

    private int trustOutOf(int set, int u) {
        int sum = 0;
        for (int v = 0; v < MEMBERS; v++) {
            if (!contains(set, v)) {
                sum += trusts[u * MEMBERS + v];
            }
        }
        return sum;
    }

    /**
     * Leaves in owed a state of debts with the present positions and the least sum: what u owes v
     * stands at u * MEMBERS + v, and of two members at most one owes the other. It starts with no
     * debts and always takes a shortest way, for only then is the sum the least in the end.
     */
    private void settle() {
        for (int pair = 0; pair < PAIRS; pair++) {
            owed[pair] = 0;
        }
        for (int u = 0; u < MEMBERS; u++) {
            unsettled[u] = positions[u];
        }
        for (int round = 0; round < MOST_ROUNDS; round++) {
            int debtor = firstDebtor();
            if (debtor == NOBODY) {
                return;
            }
            findShortestWays(debtor);
            int creditor = firstReachedCreditor();
            if (creditor == NOBODY) {
                return;
            }
            settleBetween(debtor, creditor);
        }
    }

    private int firstDebtor() {
        for (int u = 0; u < MEMBERS; u++) {
            if (unsettled[u] < 0) {
                return u;
            }
        }
        return NOBODY;
    }

    private int firstReachedCreditor() {
        for (int v = 0; v < MEMBERS; v++) {
            if (unsettled[v] > 0 && distances[v] < UNREACHED) {
                return v;
            }
        }
        return NOBODY;
    }

    /** Steps may cost -1, so this goes over all of them once for each step a way can have. */
    private void findShortestWays(int debtor) {
        for (int u = 0; u < MEMBERS; u++) {
            distances[u] = UNREACHED;
            previous[u] = debtor;
        }
        distances[debtor] = 0;
        for (int length = 1; length < MEMBERS; length++) {
            for (int u = 0; u < MEMBERS; u++) {
                takeStepsFrom(u);
            }
        }
    }

    private void takeStepsFrom(int u) {
        if (distances[u] == UNREACHED) {
            return;
        }
        for (int v = 0; v < MEMBERS; v++) {
            int distance = distances[u] + stepCost(u, v);
            if (u != v && stepRoom(u, v) > 0 && distance < distances[v]) {
                distances[v] = distance;
                previous[v] = u;
            }
        }
    }

    /** A step to a member that owes u first takes from that debt, which makes the sum less. */
    private int stepCost(int u, int v) {
        return owed[v * MEMBERS + u] > 0 ? -1 : 1;
    }

    private int stepRoom(int u, int v) {
        int back = owed[v * MEMBERS + u];
        return back > 0 ? back : trusts[v * MEMBERS + u] - owed[u * MEMBERS + v];
    }

    private void settleBetween(int debtor, int creditor) {
        int amount = -unsettled[debtor];
        amount = unsettled[creditor] < amount ? unsettled[creditor] : amount;
        int v = creditor;
        for (int step = 0; step < MEMBERS && v != debtor; step++) {
            int free = stepRoom(previous[v], v);
            amount = free < amount ? free : amount;
            v = previous[v];
        }
        v = creditor;
        for (int step = 0; step < MEMBERS && v != debtor; step++) {
            addDebt(previous[v], v, amount);
            v = previous[v];
        }
        unsettled[debtor] += amount;
        unsettled[creditor] -= amount;
    }

    private void addDebt(int u, int v, int amount) {
        if (owed[v * MEMBERS + u] > 0) {
            owed[v * MEMBERS + u] -= amount;
        } else {
            owed[u * MEMBERS + v] += amount;
        }
    }
}
