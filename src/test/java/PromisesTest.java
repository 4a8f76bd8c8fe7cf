/** Each promise of the document by hand: ordinary inputs, the edges it names, and wrong inputs. */
public final class PromisesTest {
    private static final int LOWEST = Integer.MIN_VALUE;
    private static final int HIGHEST = Integer.MAX_VALUE;
    private static final int[][] WRONG_MEMBERS = {
        {-1, 0}, {0, -1}, {7, 0}, {0, 7}, {-1, 7}, {7, -1}, {0, 0}, {3, 3}, {6, 6}, {7, 7}, {-1, -1},
        {LOWEST, 0}, {0, LOWEST}, {HIGHEST, 0}, {0, HIGHEST}, {LOWEST, LOWEST}, {32, 1}, {1, 32}, {8, 1},
    };

    private PromisesTest() {
    }

    public static void main(String[] args) {
        newObject();
        objectsAreApart();
        trust();
        withdraw();
        withdrawLooksAtPositionsOnly();
        pay();
        payGoesThroughOthers();
        gather();
        clear();
        clearLooksAtTheEndOnly();
        clearRefused();
        forget();
        trusted();
        position();
        most();
        mostOverAllRoads();
        spread();
        leastAndGreatestDebt();
        debtsOfAChain();
        debtsTakeTheShortWay();
        debtsGoRoundWhereTheyMust();
        open();
        theGreatestNumbers();
        Check.end();
    }

    private static void newObject() {
        Net x = new Net();
        for (int u = 0; u < 7; u++) {
            Check.due("new: position " + u, x.position(u), 0);
            for (int v = 0; v < 7; v++) {
                int members = u == v ? -1 : 0;
                Check.due("new: trusted " + u + " " + v, x.trusted(u, v), members);
                Check.due("new: most " + u + " " + v, x.most(u, v), members);
                Check.due("new: leastDebt " + u + " " + v, x.leastDebt(u, v), u < v ? 0 : -100000);
                Check.due("new: greatestDebt " + u + " " + v, x.greatestDebt(u, v), u < v ? 0 : -100000);
            }
        }
        Check.due("new: debts", x.debts(), 0);
        Check.due("new: open(0)", x.open(0), 42);
        Check.due("new: open(1)", x.open(1), 0);
        Check.due("new: spread(0, 126)", x.spread(0, 126), 0);
        Check.due("new: pay 1", x.pay(0, 1, 1), -3);
        Check.due("new: pay 0", x.pay(0, 1, 0), 0);
        Check.due("new: forget", x.forget(), 0);
        Check.due("new: clear", x.clear(), 0);
    }

    private static void objectsAreApart() {
        Net x = new Net();
        Net y = new Net();
        x.trust(1, 0, 5);
        x.pay(0, 1, 3);
        x.gather(0, 1, 1);
        Check.due("apart: trusted", y.trusted(1, 0), 0);
        Check.due("apart: position", y.position(0), 0);
        Check.due("apart: debts", y.debts(), 0);
        Check.due("apart: forget", y.forget(), 0);
        Check.due("apart: the other's list", x.forget(), 1);
    }

    private static void trust() {
        Net x = new Net();
        for (int[] pair : WRONG_MEMBERS) {
            Check.due("trust members", x.trust(pair[0], pair[1], 1), -1);
            Check.due("trust members ahead of amount", x.trust(pair[0], pair[1], -1), -1);
        }
        Check.due("trust by 0", x.trust(0, 1, 0), 0);
        Check.due("trust by 600", x.trust(0, 1, 600), 600);
        Check.due("trust to 1001", x.trust(0, 1, 401), -2);
        Check.due("trust after a refusal", x.trusted(0, 1), 600);
        Check.due("trust to 1000", x.trust(0, 1, 400), 1000);
        Check.due("trust above 1000", x.trust(0, 1, 1), -2);
        Check.due("trust by 0 at 1000", x.trust(0, 1, 0), 1000);
        Check.due("trust by -1", x.trust(0, 1, -1), -2);
        Check.due("trust by lowest", x.trust(0, 1, LOWEST), -2);
        Check.due("trust by highest", x.trust(0, 1, HIGHEST), -2);
        Check.due("trust the other way", x.trusted(1, 0), 0);
        Check.due("trust 1001 at once", x.trust(2, 3, 1001), -2);
        Check.due("trust 1000 at once", x.trust(6, 5, 1000), 1000);
        Check.due("the trusted one can pay", x.most(5, 6), 1000);
        Check.due("the trusting one can not", x.most(6, 5), 0);
    }

    private static void withdraw() {
        Net x = new Net();
        for (int[] pair : WRONG_MEMBERS) {
            Check.due("withdraw members", x.withdraw(pair[0], pair[1], 0), -1);
            Check.due("withdraw members ahead of amount", x.withdraw(pair[0], pair[1], -1), -1);
        }
        Check.due("withdraw 0 of 0", x.withdraw(0, 1, 0), 0);
        Check.due("withdraw 1 of 0", x.withdraw(0, 1, 1), -2);
        x.trust(0, 1, 10);
        Check.due("withdraw -1", x.withdraw(0, 1, -1), -2);
        Check.due("withdraw lowest", x.withdraw(0, 1, LOWEST), -2);
        Check.due("withdraw highest", x.withdraw(0, 1, HIGHEST), -2);
        Check.due("withdraw 11 of 10", x.withdraw(0, 1, 11), -2);
        Check.due("withdraw 3 of 10", x.withdraw(0, 1, 3), 7);
        x.pay(1, 0, 4);
        Check.due("withdraw what is owed", x.withdraw(0, 1, 4), -3);
        Check.due("withdraw more than there is, owed too", x.withdraw(0, 1, 8), -2);
        Check.due("withdraw after a refusal", x.trusted(0, 1), 7);
        Check.due("withdraw down to what is owed", x.withdraw(0, 1, 3), 4);
        Check.due("withdraw 0 where all is owed", x.withdraw(0, 1, 0), 4);
        Check.due("withdraw 1 where all is owed", x.withdraw(0, 1, 1), -3);
        x.pay(0, 1, 4);
        Check.due("withdraw all", x.withdraw(0, 1, 4), 0);
    }

    private static void withdrawLooksAtPositionsOnly() {
        Net x = new Net();
        x.trust(1, 0, 10);
        x.pay(0, 1, 6);
        x.trust(1, 2, 6);
        x.trust(2, 0, 5);
        // 0 owes 1 six; five of them can go by 2 instead.
        Check.due("withdraw by exchange, too much", x.withdraw(1, 0, 10), -3);
        Check.due("withdraw by exchange", x.withdraw(1, 0, 9), 1);
        Check.due("position of the debtor", x.position(0), -6);
        Check.due("position of the creditor", x.position(1), 6);
        Check.due("position between", x.position(2), 0);
        Check.due("withdraw on the new road", x.withdraw(2, 0, 1), -3);
        Check.due("withdraw what is spare there", x.withdraw(1, 2, 1), 5);
    }

    private static void pay() {
        Net x = new Net();
        for (int[] pair : WRONG_MEMBERS) {
            Check.due("pay members", x.pay(pair[0], pair[1], 0), -1);
            Check.due("pay members ahead of amount", x.pay(pair[0], pair[1], -1), -1);
        }
        x.trust(1, 0, 10);
        Check.due("pay -1", x.pay(0, 1, -1), -2);
        Check.due("pay lowest", x.pay(0, 1, LOWEST), -2);
        Check.due("pay highest", x.pay(0, 1, HIGHEST), -3);
        Check.due("pay 11", x.pay(0, 1, 11), -3);
        Check.due("pay 0", x.pay(0, 1, 0), 0);
        Check.due("pay 4", x.pay(0, 1, 4), -4);
        Check.due("pay 7 more", x.pay(0, 1, 7), -3);
        Check.due("pay 6 more", x.pay(0, 1, 6), -10);
        Check.due("pay 0 where nothing is left", x.pay(0, 1, 0), -10);
        Check.due("pay 1 where nothing is left", x.pay(0, 1, 1), -3);
        Check.due("pay back too much", x.pay(1, 0, 11), -3);
        Check.due("pay back", x.pay(1, 0, 10), 0);
        Check.due("the payee's position", x.position(0), 0);
    }

    private static void payGoesThroughOthers() {
        Net x = new Net();
        for (int u = 0; u < 6; u++) {
            x.trust(u + 1, u, 20 - u);
        }
        Check.due("pay over six, too much", x.pay(0, 6, 16), -3);
        Check.due("pay over six", x.pay(0, 6, 15), -15);
        Check.due("payee", x.position(6), 15);
        for (int u = 1; u < 6; u++) {
            Check.due("between " + u, x.position(u), 0);
        }
        Check.due("pay on from the middle", x.pay(3, 4, 2), -2);
        Check.due("pay from the middle, too much", x.pay(3, 4, 1), -3);
    }

    private static void gather() {
        Net x = new Net();
        for (int[] pair : WRONG_MEMBERS) {
            Check.due("gather members", x.gather(pair[0], pair[1], 1), -1);
            Check.due("gather members ahead of amount", x.gather(pair[0], pair[1], -1), -1);
        }
        Check.due("gather -1", x.gather(0, 1, -1), -2);
        Check.due("gather lowest", x.gather(0, 1, LOWEST), -2);
        Check.due("gather 10001", x.gather(0, 1, 10001), -2);
        Check.due("gather highest", x.gather(0, 1, HIGHEST), -2);
        Check.due("gather 0", x.gather(0, 1, 0), 1);
        Check.due("gather 10000", x.gather(0, 1, 10000), 2);
        Check.due("gather moves nothing", x.position(0), 0);
        Check.due("gather the same again", x.gather(0, 1, 10000), 3);
        Check.due("gather fourth", x.gather(6, 5, 1), 4);
        Check.due("gather fifth", x.gather(5, 6, 1), 5);
        Check.due("gather sixth", x.gather(2, 3, 1), 6);
        Check.due("gather seventh", x.gather(2, 3, 1), -3);
        Check.due("gather on a full list, members first", x.gather(2, 2, 10001), -1);
        Check.due("gather on a full list, amount next", x.gather(2, 3, 10001), -2);
        Check.due("gather on a full list, below 0", x.gather(2, 3, -1), -2);
        Check.due("gather on a full list, 0", x.gather(2, 3, 0), -3);
        Check.due("the list has six", x.forget(), 6);
        Check.due("gather after forget", x.gather(2, 3, 1), 1);
    }

    private static void clear() {
        Net x = new Net();
        x.trust(1, 0, 10);
        x.trust(2, 1, 10);
        x.gather(0, 1, 10);
        x.gather(1, 2, 4);
        x.gather(0, 2, 0);
        Check.due("clear", x.clear(), 3);
        Check.due("clear: 0", x.position(0), -10);
        Check.due("clear: 1", x.position(1), 6);
        Check.due("clear: 2", x.position(2), 4);
        Check.due("clear empties the list", x.clear(), 0);
        Check.due("clear of nothing moves nothing", x.position(0), -10);
        Check.due("gather after clear", x.gather(1, 0, 10), 1);
        Check.due("clear again", x.clear(), 1);
        Check.due("clear again: 0", x.position(0), 0);
        Check.due("clear again: 1", x.position(1), -4);
    }

    private static void clearLooksAtTheEndOnly() {
        Net x = new Net();
        x.gather(0, 1, 10000);
        x.gather(0, 1, 10000);
        x.gather(1, 0, 10000);
        x.gather(1, 2, 10000);
        x.gather(2, 0, 10000);
        x.gather(5, 6, 0);
        Check.due("none between is possible", x.clear(), 6);
        Check.due("and the first is not", x.pay(0, 1, 1), -3);
        for (int u = 0; u < 7; u++) {
            Check.due("all is as before: " + u, x.position(u), 0);
        }
        x.trust(3, 4, 2);
        x.gather(5, 3, 7);
        x.gather(4, 5, 7);
        x.gather(3, 4, 5);
        Check.due("a ring but for 2", x.clear(), 3);
        Check.due("ring: 3", x.position(3), 2);
        Check.due("ring: 4", x.position(4), -2);
        Check.due("ring: 5", x.position(5), 0);
    }

    private static void clearRefused() {
        Net x = new Net();
        x.trust(1, 0, 10);
        x.gather(0, 1, 10);
        x.gather(0, 1, 1);
        Check.due("clear, not possible", x.clear(), -3);
        Check.due("refused: 0", x.position(0), 0);
        Check.due("refused: 1", x.position(1), 0);
        Check.due("refused: most", x.most(0, 1), 10);
        Check.due("the list stays", x.gather(1, 0, 1), 3);
        Check.due("and can be cleared then", x.clear(), 3);
        Check.due("cleared: 0", x.position(0), -10);
        for (int i = 0; i < 6; i++) {
            x.gather(0, 1, 10000);
        }
        Check.due("sixty thousand", x.clear(), -3);
        Check.due("sixty thousand: 0", x.position(0), -10);
        Check.due("sixty thousand: the list", x.forget(), 6);
        // What each pair could bear alone, 2 can not bear together.
        Net y = new Net();
        y.trust(2, 0, 5);
        y.trust(3, 2, 5);
        y.trust(4, 2, 5);
        y.gather(0, 3, 3);
        y.gather(0, 4, 3);
        Check.due("one road for two", y.clear(), -3);
        y.forget();
        y.gather(0, 3, 3);
        y.gather(0, 4, 2);
        Check.due("one road is enough for two", y.clear(), 2);
    }

    private static void forget() {
        Net x = new Net();
        Check.due("forget nothing", x.forget(), 0);
        x.trust(1, 0, 10);
        x.gather(0, 1, 3);
        x.gather(0, 1, 4);
        Check.due("forget two", x.forget(), 2);
        Check.due("forget twice", x.forget(), 0);
        Check.due("forget moves nothing", x.position(0), 0);
        Check.due("nothing to clear", x.clear(), 0);
        Check.due("nothing was made", x.position(0), 0);
        Check.due("gather after forget", x.gather(0, 1, 1), 1);
        Check.due("clear after forget", x.clear(), 1);
        Check.due("the new payment alone", x.position(0), -1);
    }

    private static void trusted() {
        Net x = new Net();
        for (int[] pair : WRONG_MEMBERS) {
            Check.due("trusted members", x.trusted(pair[0], pair[1]), -1);
        }
        for (int u = 0; u < 7; u++) {
            for (int v = 0; v < 7; v++) {
                x.trust(u, v, 10 * u + v);
            }
        }
        for (int u = 0; u < 7; u++) {
            for (int v = 0; v < 7; v++) {
                Check.due("trusted " + u + " " + v, x.trusted(u, v), u == v ? -1 : 10 * u + v);
            }
        }
        x.pay(0, 1, 10);
        Check.due("trusted after a payment", x.trusted(1, 0), 10);
        x.withdraw(6, 0, 20);
        Check.due("trusted after withdraw", x.trusted(6, 0), 40);
        Check.due("trusted the other way", x.trusted(0, 6), 6);
    }

    private static void position() {
        Net x = new Net();
        for (int u = 1; u < 7; u++) {
            x.trust(u, 0, u);
            Check.due("pay to " + u, x.pay(0, u, u), -u * (u + 1) / 2);
        }
        for (int u = 1; u < 7; u++) {
            Check.due("position " + u, x.position(u), u);
        }
        Check.due("position 0", x.position(0), -21);
        Check.due("position -1", x.position(-1), 0);
        Check.due("position 7", x.position(7), 0);
        Check.due("position lowest", x.position(LOWEST), 0);
        Check.due("position highest", x.position(HIGHEST), 0);
    }

    private static void most() {
        Net x = new Net();
        for (int[] pair : WRONG_MEMBERS) {
            Check.due("most members", x.most(pair[0], pair[1]), -1);
        }
        x.trust(1, 0, 10);
        x.trust(0, 1, 3);
        Check.due("most 0 1", x.most(0, 1), 10);
        Check.due("most 1 0", x.most(1, 0), 3);
        x.pay(0, 1, 4);
        Check.due("most 0 1 less", x.most(0, 1), 6);
        Check.due("most 1 0 more", x.most(1, 0), 7);
        x.pay(1, 0, 7);
        Check.due("most 0 1 from the other end", x.most(0, 1), 13);
        Check.due("most 1 0 at its end", x.most(1, 0), 0);
        Check.due("most to a stranger", x.most(0, 2), 0);
    }

    private static void mostOverAllRoads() {
        Net x = new Net();
        for (int w = 1; w < 6; w++) {
            x.trust(w, 0, 10 + w);
            x.trust(6, w, 16 - w);
        }
        // Over w goes the lesser of 10 + w and 16 - w: 11, 12, 13, 12, 11.
        Check.due("five roads", x.most(0, 6), 59);
        x.trust(6, 0, 100);
        Check.due("and a straight one", x.most(0, 6), 159);
        x.trust(4, 1, 0);
        x.trust(2, 5, 50);
        // 5 has 15 in and 11 on, 2 has 12 in and 14 on: 2 more by 5 to 2.
        Check.due("and a bridge", x.most(0, 6), 161);
        Check.due("all of it", x.pay(0, 6, 161), -161);
        Check.due("nothing is left", x.most(0, 6), 0);
        Check.due("all of it back", x.most(6, 0), 161);
    }

    private static void spread() {
        Net x = new Net();
        x.trust(1, 0, 10);
        x.trust(2, 0, 3);
        Check.due("spread to 1", x.spread(0, 2), 10);
        Check.due("spread to 2", x.spread(0, 4), 3);
        Check.due("spread to both", x.spread(0, 6), 13);
        Check.due("spread to all others", x.spread(0, 126), 13);
        Check.due("spread to strangers", x.spread(0, 120), 0);
        x.trust(3, 0, 5);
        x.trust(1, 3, 4);
        x.trust(2, 3, 4);
        Check.due("spread by 3 to both", x.spread(0, 6), 18);
        Check.due("spread by 3 to 1", x.spread(0, 2), 14);
        Check.due("spread by 3 to 2", x.spread(0, 4), 7);
        x.pay(0, 1, 12);
        Check.due("spread after a payment", x.spread(0, 6), 6);
        Check.due("spread back", x.spread(1, 1), 12);
        Check.due("spread back, others too", x.spread(1, 125), 12);
        Check.due("spread of no member", x.spread(-1, 2), -1);
        Check.due("spread of 7", x.spread(7, 2), -1);
        Check.due("spread of lowest", x.spread(LOWEST, 2), -1);
        Check.due("spread of highest", x.spread(HIGHEST, 2), -1);
        Check.due("spread to nobody", x.spread(0, 0), -1);
        Check.due("spread to -1", x.spread(0, -1), -1);
        Check.due("spread to -2", x.spread(0, -2), -1);
        Check.due("spread to 128", x.spread(0, 128), -1);
        Check.due("spread to 130", x.spread(0, 130), -1);
        Check.due("spread to lowest", x.spread(0, LOWEST), -1);
        Check.due("spread to highest", x.spread(0, HIGHEST), -1);
        Check.due("spread to oneself", x.spread(0, 1), -1);
        Check.due("spread to oneself and others", x.spread(0, 7), -1);
        Check.due("spread of 6 to oneself", x.spread(6, 64), -1);
        Check.due("spread of 6 to all others", x.spread(6, 63), 0);
        for (int u = 0; u < 7; u++) {
            Check.due("spread of " + u + " to all", x.spread(u, 127), -1);
        }
    }

    private static void leastAndGreatestDebt() {
        Net x = new Net();
        for (int[] pair : WRONG_MEMBERS) {
            Check.due("leastDebt members", x.leastDebt(pair[0], pair[1]), -100000);
            Check.due("greatestDebt members", x.greatestDebt(pair[0], pair[1]), -100000);
        }
        x.trust(1, 0, 10);
        x.trust(0, 1, 4);
        Check.due("no ring, least", x.leastDebt(0, 1), 0);
        Check.due("no ring, greatest", x.greatestDebt(0, 1), 0);
        Check.due("leastDebt turned", x.leastDebt(1, 0), -100000);
        Check.due("greatestDebt turned", x.greatestDebt(1, 0), -100000);
        x.pay(0, 1, 3);
        Check.due("owed, least", x.leastDebt(0, 1), 3);
        Check.due("owed, greatest", x.greatestDebt(0, 1), 3);
        // With 2 there is a ring 0, 1, 2 that holds 5 one way and 2 the other.
        x.trust(2, 1, 5);
        x.trust(0, 2, 6);
        x.trust(1, 2, 2);
        x.trust(2, 0, 8);
        Check.due("ring, least 0 1", x.leastDebt(0, 1), 1);
        Check.due("ring, greatest 0 1", x.greatestDebt(0, 1), 8);
        Check.due("ring, least 0 2", x.leastDebt(0, 2), -5);
        Check.due("ring, greatest 0 2", x.greatestDebt(0, 2), 2);
        Check.due("ring, least 1 2", x.leastDebt(1, 2), -2);
        Check.due("ring, greatest 1 2", x.greatestDebt(1, 2), 5);
        x.pay(1, 0, 6);
        // Now 1 owes 0 three in all, and b(0, 1) may not go below -4.
        Check.due("end of trust, least 0 1", x.leastDebt(0, 1), -4);
        Check.due("end of trust, greatest 0 1", x.greatestDebt(0, 1), 2);
        Check.due("no trust, least", x.leastDebt(5, 6), 0);
        Check.due("no trust, greatest", x.greatestDebt(5, 6), 0);
        Net y = new Net();
        y.trust(1, 0, 3);
        y.trust(2, 1, 900);
        y.trust(0, 2, 900);
        Check.due("ring held by its pair", y.greatestDebt(0, 1), 3);
        Check.due("ring held by another", y.greatestDebt(1, 2), 3);
        Check.due("ring held by another, turned", y.leastDebt(0, 2), -3);
    }

    private static void debtsOfAChain() {
        Net x = new Net();
        for (int u = 0; u < 6; u++) {
            x.trust(u + 1, u, 100);
        }
        x.pay(0, 6, 10);
        Check.due("debts of six links", x.debts(), 60);
        x.pay(2, 4, 5);
        Check.due("debts of two links more", x.debts(), 70);
        x.pay(6, 0, 4);
        Check.due("debts less", x.debts(), 46);
        x.pay(6, 0, 6);
        x.pay(4, 2, 5);
        Check.due("debts of nothing", x.debts(), 0);
    }

    private static void debtsTakeTheShortWay() {
        Net x = new Net();
        x.trust(1, 0, 10);
        x.trust(2, 1, 10);
        x.pay(0, 2, 8);
        Check.due("debts by 1", x.debts(), 16);
        x.trust(2, 0, 5);
        Check.due("debts by 1 and straight", x.debts(), 11);
        x.trust(2, 0, 5);
        Check.due("debts straight", x.debts(), 8);
        x.withdraw(2, 0, 10);
        Check.due("debts by 1 again", x.debts(), 16);
        // Both owe in a ring of three: nothing is owed in truth.
        Net y = new Net();
        y.trust(1, 0, 9);
        y.trust(2, 1, 9);
        y.trust(0, 2, 9);
        y.pay(0, 1, 9);
        y.pay(1, 2, 9);
        Check.due("debts of two sides", y.debts(), 18);
        y.pay(2, 0, 9);
        Check.due("debts of a ring", y.debts(), 0);
    }

    private static void debtsGoRoundWhereTheyMust() {
        // 0 could pay 3 and 1 could pay 4 over short ways, but both would need the link 2 to 3.
        Net x = new Net();
        x.trust(2, 0, 5);
        x.trust(2, 1, 5);
        x.trust(3, 2, 5);
        x.trust(4, 3, 5);
        x.trust(5, 1, 5);
        x.trust(6, 5, 5);
        x.trust(4, 6, 5);
        x.gather(0, 3, 4);
        x.gather(1, 4, 5);
        Check.due("both are paid", x.clear(), 2);
        // 0 to 3: 4 over two links. 1 to 4: 1 by 2 and 3, three links; 4 by 5 and 6, three links.
        Check.due("debts with a way round", x.debts(), 23);
        x.trust(3, 1, 2);
        Check.due("debts with a shorter way for two", x.debts(), 21);
        x.trust(4, 0, 3);
        // 0 gives 3 straight to 4 and 1 by 2 to 3. 1 gives 2 straight to 3, 1 by 2 to 3, and 2 to 4
        // over three links.
        Check.due("debts where each pays the other's", x.debts(), 3 + 2 + 2 + 2 + 6);
    }

    private static void open() {
        Net x = new Net();
        Check.due("open lowest", x.open(LOWEST), 42);
        Check.due("open -1", x.open(-1), 42);
        Check.due("open 0", x.open(0), 42);
        Check.due("open 1", x.open(1), 0);
        x.trust(1, 0, 10);
        x.trust(2, 1, 7);
        Check.due("open 1, a chain", x.open(1), 3);
        Check.due("open 7, a chain", x.open(7), 3);
        Check.due("open 8, a chain", x.open(8), 1);
        Check.due("open 10, a chain", x.open(10), 1);
        Check.due("open 11, a chain", x.open(11), 0);
        x.pay(0, 2, 2);
        Check.due("open 1, both ways", x.open(1), 6);
        Check.due("open 3, one way", x.open(3), 3);
        Check.due("open highest", x.open(HIGHEST), 0);
        Net y = new Net();
        for (int u = 0; u < 7; u++) {
            y.trust((u + 1) % 7, u, 3);
        }
        Check.due("open 3, a ring", y.open(3), 42);
        Check.due("open 4, a ring", y.open(4), 0);
    }

    private static void theGreatestNumbers() {
        Net x = new Net();
        for (int u = 0; u < 7; u++) {
            for (int v = 0; v < 7; v++) {
                x.trust(u, v, 1000);
            }
        }
        Check.due("full: most", x.most(0, 6), 6000);
        Check.due("full: spread to three", x.spread(0, 14), 6000);
        Check.due("full: open", x.open(6000), 42);
        Check.due("full: open above", x.open(6001), 0);
        Check.due("full: least", x.leastDebt(2, 5), -1000);
        Check.due("full: greatest", x.greatestDebt(2, 5), 1000);
        Check.due("full: pay", x.pay(0, 6, 6000), -6000);
        Check.due("full: pay more", x.pay(0, 6, 1), -3);
        Check.due("full: debts", x.debts(), 11000);
        Check.due("full: most back", x.most(6, 0), 12000);
        Check.due("full: pay back", x.pay(6, 0, 12000), -6000);
        Check.due("full: debts turned", x.debts(), 11000);
        x.pay(0, 6, 6000);
        for (int u = 0; u < 3; u++) {
            x.gather(u, u + 3, 4000);
        }
        Check.due("full: three pay three", x.clear(), 3);
        Check.due("full: debts of three to three", x.debts(), 15000);
        Net y = new Net();
        for (int u = 0; u < 3; u++) {
            for (int v = 3; v < 7; v++) {
                y.trust(v, u, 1000);
                y.pay(u, v, 1000);
            }
        }
        Check.due("twelve thousand: debts", y.debts(), 12000);
        Check.due("twelve thousand: only back", y.open(1), 12);
        Check.due("twelve thousand: back", y.spread(3, 7), 3000);
        Check.due("twelve thousand: withdraw", y.withdraw(6, 2, 1), -3);
    }
}
