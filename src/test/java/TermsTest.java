import java.util.ArrayList;
import java.util.List;

/** The sentences of the section "Terms" that bind all calls, each with a test of its own. */
public final class TermsTest {
    private static final int MEMBERS = Scenes.MEMBERS;
    private static final int LOWEST = Scenes.LOWEST;
    private static final int HIGHEST = Scenes.HIGHEST;

    /** A call on an object, its name, and the answer that is due. */
    private record Due(String name, int answer, Call call) {
    }

    private interface Call {
        int on(Net x);
    }

    private TermsTest() {
    }

    public static void main(String[] args) {
        sevenMembers();
        trustGoesFromZeroToThousand();
        debtGoesFromOneTrustToTheOther();
        atFirstNobodyOwesAnything();
        stateMayBeExchanged();
        paymentMovesTwoPositions();
        paymentCanBeMadeIfPossible();
        refusedCallChangesNothing();
        refusedCallsInARowChangeNothing();
        testsAreMadeInOrder();
        twoMembersThatAreNot();
        callsBelowChangeNothing();
        fiveHundredAndTwelveCalls();
        Check.end();
    }

    /** "There are seven MEMBERS, 0 to 6." */
    private static void sevenMembers() {
        for (int u = 0; u < MEMBERS; u++) {
            for (int v = 0; v < MEMBERS; v++) {
                if (u != v) {
                    Net x = new Net();
                    String pair = u + ", " + v;
                    Check.due("members: trust " + pair, x.trust(v, u, 5), 5);
                    Check.due("members: most " + pair, x.most(u, v), 5);
                    Check.due("members: pay " + pair, x.pay(u, v, 2), -2);
                    Check.due("members: gather " + pair, x.gather(u, v, 3), 1);
                    Check.due("members: clear " + pair, x.clear(), 1);
                    Check.due("members: position " + u, x.position(u), -5);
                    Check.due("members: position " + v, x.position(v), 5);
                    Check.due("members: spread " + pair, x.spread(v, 1 << u), 5);
                    Check.due("members: open " + pair, x.open(5), 1);
                    Check.due("members: withdraw " + pair, x.withdraw(v, u, 1), -3);
                }
            }
        }
    }

    /** "a TRUST t(u, v), a whole number from 0 to 1000: so much u lets v owe to u at most; at first 0" */
    private static void trustGoesFromZeroToThousand() {
        Net x = new Net();
        for (int u = 0; u < MEMBERS; u++) {
            for (int v = 0; v < MEMBERS; v++) {
                if (u != v) {
                    Check.due("at first 0: " + u + ", " + v, x.trusted(u, v), 0);
                    Check.due("none below 0: " + u + ", " + v, x.withdraw(u, v, 1), -2);
                    Check.due("up to 1000: " + u + ", " + v, x.trust(u, v, 1000), 1000);
                    Check.due("none above: " + u + ", " + v, x.trust(u, v, 1), -2);
                    Check.due("down to 0: " + u + ", " + v, x.withdraw(u, v, 1000), 0);
                    Check.due("none below, again: " + u + ", " + v, x.withdraw(u, v, 1), -2);
                }
            }
        }
        Net y = new Net();
        y.trust(3, 5, 1000);
        Check.due("3 lets 5 owe to 3", y.pay(5, 3, 1000), -1000);
        Check.due("at most that", y.pay(5, 3, 1), -3);
        Check.due("5 lets 3 owe nothing", y.pay(3, 5, 1001), -3);
        Check.due("but takes back what it owes", y.pay(3, 5, 1000), 0);
    }

    /** "one whole number b(u, v), from -t(u, v) to t(v, u)" */
    private static void debtGoesFromOneTrustToTheOther() {
        for (int u = 0; u < MEMBERS; u++) {
            for (int v = u + 1; v < MEMBERS; v++) {
                Net x = new Net();
                String pair = u + ", " + v;
                x.trust(u, v, 30);
                x.trust(v, u, 70);
                Check.due("b above t(v, u): " + pair, x.pay(u, v, 71), -3);
                Check.due("b is t(v, u): " + pair, x.pay(u, v, 70), -70);
                Check.due("b, least: " + pair, x.leastDebt(u, v), 70);
                Check.due("b, greatest: " + pair, x.greatestDebt(u, v), 70);
                Check.due("b below -t(u, v): " + pair, x.pay(v, u, 101), -3);
                Check.due("b is -t(u, v): " + pair, x.pay(v, u, 100), -30);
                Check.due("b below 0, least: " + pair, x.leastDebt(u, v), -30);
                Check.due("b below 0, greatest: " + pair, x.greatestDebt(u, v), -30);
                Check.due("as much as it is below: " + pair, x.debts(), 30);
            }
        }
    }

    /** "At first nobody owes anything." */
    private static void atFirstNobodyOwesAnything() {
        Net x = new Net();
        Check.due("at first: debts", x.debts(), 0);
        for (int u = 0; u < MEMBERS; u++) {
            Check.due("at first: position " + u, x.position(u), 0);
            for (int v = u + 1; v < MEMBERS; v++) {
                Check.due("at first: least " + u + ", " + v, x.leastDebt(u, v), 0);
                Check.due("at first: greatest " + u + ", " + v, x.greatestDebt(u, v), 0);
            }
        }
    }

    /** "a state of debts may be exchanged at any time for another one with the same positions" */
    private static void stateMayBeExchanged() {
        for (int u = 0; u < MEMBERS; u++) {
            int v = (u + 2) % MEMBERS;
            int w = (u + 5) % MEMBERS;
            Net x = new Net();
            // Paid over w, for there is no other way; then straight, for that way is gone.
            x.trust(w, u, 8);
            x.trust(v, w, 8);
            Check.due("exchange: over " + w, x.pay(u, v, 8), -8);
            Check.due("exchange: not yet", x.withdraw(w, u, 1), -3);
            x.trust(v, u, 5);
            Check.due("exchange: too much", x.withdraw(w, u, 6), -3);
            Check.due("exchange: as much as goes straight", x.withdraw(w, u, 5), 3);
            Check.due("exchange: nothing is left straight", x.withdraw(v, u, 1), -3);
            Check.due("exchange: so much is spare", x.withdraw(v, w, 5), 3);
            Check.due("exchange: position of " + u, x.position(u), -8);
            Check.due("exchange: position of " + v, x.position(v), 8);
            Check.due("exchange: position of " + w, x.position(w), 0);
        }
    }

    /** "makes the position of u less, and that of v greater, by the amount" */
    private static void paymentMovesTwoPositions() {
        Net x = new Net();
        for (int u = 0; u < MEMBERS; u++) {
            x.trust((u + 1) % MEMBERS, u, 100);
        }
        Check.due("two positions: pay", x.pay(5, 2, 9), -9);
        for (int u = 0; u < MEMBERS; u++) {
            Check.due("two positions: " + u, x.position(u), u == 5 ? -9 : u == 2 ? 9 : 0);
        }
        Check.due("two positions: pay on", x.pay(2, 4, 20), -11);
        Check.due("two positions: payee", x.position(4), 20);
    }

    /** "It can be made if the positions after it are possible." */
    private static void paymentCanBeMadeIfPossible() {
        for (int scene = 0; scene < Scenes.NAMES.length; scene++) {
            for (int u = 0; u < MEMBERS; u++) {
                for (int v = 0; v < MEMBERS; v++) {
                    if (u != v) {
                        Net x = Scenes.make(scene);
                        String pair = Scenes.NAMES[scene] + ": " + u + ", " + v;
                        int most = x.most(u, v);
                        int position = x.position(u);
                        Check.due(pair + " one too much", x.pay(u, v, most + 1), -3);
                        Check.due(pair + " all", x.pay(u, v, most), position - most);
                        Check.due(pair + " nothing is left", x.most(u, v), 0);
                        Check.due(pair + " one more", x.pay(u, v, 1), -3);
                        Check.due(pair + " nothing more", x.pay(u, v, 0), position - most);
                        Check.due(pair + " all back", x.pay(v, u, most), x.position(v));
                        Check.due(pair + " as before", x.most(u, v), most);
                    }
                }
            }
        }
    }

    /** "A refused call changes nothing." */
    private static void refusedCallChangesNothing() {
        for (int scene = 0; scene < Scenes.NAMES.length; scene++) {
            List<Integer> before = Scenes.look(Scenes.make(scene));
            for (Due refused : refusals(scene)) {
                String name = Scenes.NAMES[scene] + ": " + refused.name;
                Net x = Scenes.make(scene);
                Check.due(name, refused.call.on(x), refused.answer);
                Check.holds(name + " changes nothing", Scenes.look(x).equals(before));
            }
        }
    }

    /** The same sentence for many refusals, one after the other on one object. */
    private static void refusedCallsInARowChangeNothing() {
        for (int scene = 0; scene < Scenes.NAMES.length; scene++) {
            List<Integer> before = Scenes.look(Scenes.make(scene));
            Net x = Scenes.make(scene);
            for (Due refused : refusals(scene)) {
                if (x.left() < 320) {
                    Check.holds(Scenes.NAMES[scene] + ": all before " + refused.name, Scenes.look(x).equals(before));
                    x = Scenes.make(scene);
                }
                Check.due(Scenes.NAMES[scene] + ", in a row: " + refused.name, refused.call.on(x), refused.answer);
            }
            Check.holds(Scenes.NAMES[scene] + ": all to the last", Scenes.look(x).equals(before));
        }
    }

    private static List<Due> refusals(int scene) {
        List<Due> list = new ArrayList<>();
        addWrongMembers(list);
        for (int amount : new int[] {-1, -2, -1000, LOWEST, LOWEST + 1}) {
            list.add(new Due("trust " + amount, -2, x -> x.trust(1, 0, amount)));
            list.add(new Due("withdraw " + amount, -2, x -> x.withdraw(1, 0, amount)));
            list.add(new Due("pay " + amount, -2, x -> x.pay(0, 1, amount)));
            list.add(new Due("pay back " + amount, -2, x -> x.pay(1, 0, amount)));
            list.add(new Due("gather " + amount, -2, x -> x.gather(0, 1, amount)));
        }
        for (int amount : new int[] {1001, 10001, HIGHEST - 1000, HIGHEST}) {
            list.add(new Due("trust " + amount, -2, x -> x.trust(1, 0, amount)));
            list.add(new Due("withdraw " + amount, -2, x -> x.withdraw(1, 0, amount)));
        }
        for (int amount : new int[] {12001, HIGHEST - 12000, HIGHEST - 1000, HIGHEST}) {
            list.add(new Due("pay " + amount, -3, x -> x.pay(0, 1, amount)));
            list.add(new Due("pay back " + amount, -3, x -> x.pay(1, 0, amount)));
        }
        for (int amount : new int[] {10001, HIGHEST}) {
            list.add(new Due("gather " + amount, -2, x -> x.gather(0, 1, amount)));
        }
        list.add(new Due("pay one more than most", -3, x -> x.pay(0, 4, x.most(0, 4) + 1)));
        list.add(new Due("trust one more than 1000", -2, x -> x.trust(2, 1, 1001 - x.trusted(2, 1))));
        list.add(new Due("withdraw one more than there is", -2, x -> x.withdraw(2, 1, 1 + x.trusted(2, 1))));
        if (scene == 1 || scene == 3) {
            list.add(new Due("clear", -3, Net::clear));
        }
        if (scene == 1) {
            list.add(new Due("withdraw what is owed", -3, x -> x.withdraw(1, 0, 10)));
            list.add(new Due("withdraw 1 more than is spare", -3, x -> x.withdraw(3, 2, 2)));
        }
        if (scene == 2 || scene == 3) {
            list.add(new Due("gather a seventh", -3, x -> x.gather(5, 6, 9)));
            list.add(new Due("gather a seventh, 0", -3, x -> x.gather(5, 6, 0)));
        }
        if (scene == 3) {
            list.add(new Due("withdraw what is owed", -3, x -> x.withdraw(1, 0, 1)));
        }
        if (scene == 4) {
            list.add(new Due("withdraw of the payee", -3, x -> x.withdraw(6, 3, 1)));
            list.add(new Due("withdraw of the payer", -3, x -> x.withdraw(3, 0, 1000)));
        }
        return list;
    }

    private static void addWrongMembers(List<Due> list) {
        for (int[] pair : new int[][] {{-1, 0}, {0, -1}, {0, 7}, {7, 0}, {2, 2}, {0, LOWEST}, {HIGHEST, 1}}) {
            int u = pair[0];
            int v = pair[1];
            String of = " of " + u + ", " + v;
            list.add(new Due("trust" + of, -1, x -> x.trust(u, v, 1)));
            list.add(new Due("withdraw" + of, -1, x -> x.withdraw(u, v, 0)));
            list.add(new Due("pay" + of, -1, x -> x.pay(u, v, 0)));
            list.add(new Due("gather" + of, -1, x -> x.gather(u, v, 1)));
            list.add(new Due("trusted" + of, -1, x -> x.trusted(u, v)));
            list.add(new Due("most" + of, -1, x -> x.most(u, v)));
            list.add(new Due("leastDebt" + of, -100000, x -> x.leastDebt(u, v)));
            list.add(new Due("greatestDebt" + of, -100000, x -> x.greatestDebt(u, v)));
        }
        list.add(new Due("leastDebt turned", -100000, x -> x.leastDebt(1, 0)));
        list.add(new Due("greatestDebt turned", -100000, x -> x.greatestDebt(1, 0)));
        list.add(new Due("spread of 7", -1, x -> x.spread(7, 1)));
        list.add(new Due("spread to 0", -1, x -> x.spread(0, 0)));
        list.add(new Due("spread to 128", -1, x -> x.spread(0, 128)));
        list.add(new Due("spread to oneself", -1, x -> x.spread(0, 3)));
    }

    /** "The tests of a call are made in the order in which they are named." */
    private static void testsAreMadeInOrder() {
        for (int amount : new int[] {-1, LOWEST, 1001, 10001, HIGHEST}) {
            // Members and amount are wrong at once, and what is asked can not be done either.
            Net x = new Net();
            for (int[] pair : new int[][] {{0, 0}, {-1, 3}, {3, 7}, {7, 7}, {HIGHEST, LOWEST}}) {
                String all = " of " + pair[0] + ", " + pair[1] + ", " + amount;
                Check.due("order: trust" + all, x.trust(pair[0], pair[1], amount), -1);
                Check.due("order: withdraw" + all, x.withdraw(pair[0], pair[1], amount), -1);
                Check.due("order: pay" + all, x.pay(pair[0], pair[1], amount), -1);
                Check.due("order: gather" + all, x.gather(pair[0], pair[1], amount), -1);
            }
        }
        orderOfWithdraw();
        orderOfPay();
        orderOfGather();
    }

    private static void orderOfWithdraw() {
        Net x = new Net();
        x.trust(1, 0, 7);
        x.pay(0, 1, 7);
        Check.due("order: withdraw, possible no more", x.withdraw(1, 0, 7), -3);
        Check.due("order: withdraw, above t too", x.withdraw(1, 0, 8), -2);
        Check.due("order: withdraw, far above t too", x.withdraw(1, 0, HIGHEST), -2);
        Check.due("order: withdraw, below 0", x.withdraw(1, 0, -1), -2);
        Check.due("order: withdraw, the same member", x.withdraw(1, 1, 8), -1);
    }

    private static void orderOfPay() {
        Net x = new Net();
        x.trust(1, 0, 7);
        // A payment of -8 would be one of 8 the other way, which can't be made either.
        Check.due("order: pay, below 0 and can not be made", x.pay(1, 0, -8), -2);
        Check.due("order: pay, below 0 and could be made turned", x.pay(1, 0, -7), -2);
        Check.due("order: pay, can not be made", x.pay(1, 0, 8), -3);
        Check.due("order: pay, the same member, can not be made", x.pay(1, 1, 8), -1);
    }

    private static void orderOfGather() {
        Net x = new Net();
        for (int i = 0; i < 6; i++) {
            x.gather(i, i + 1, i);
        }
        Check.due("order: gather, full", x.gather(0, 1, 1), -3);
        Check.due("order: gather, full and below 0", x.gather(0, 1, -1), -2);
        Check.due("order: gather, full and above 10000", x.gather(0, 1, 10001), -2);
        Check.due("order: gather, full and no member", x.gather(0, 7, 1), -1);
        Check.due("order: gather, full and the same", x.gather(4, 4, 1), -1);
        Check.due("order: gather, all three", x.gather(-1, 4, 10001), -1);
    }

    /** "Two members that are not both 0 to 6, or are the same: -1." */
    private static void twoMembersThatAreNot() {
        for (int scene = 0; scene < Scenes.NAMES.length; scene++) {
            for (int no : Scenes.NO_MEMBERS) {
                for (int v = 0; v < MEMBERS; v++) {
                    membersRefused(scene, no, v);
                    membersRefused(scene, v, no);
                }
                membersRefused(scene, no, no);
                membersRefused(scene, no, -1);
                membersRefused(scene, 7, no);
            }
            for (int u = 0; u < MEMBERS; u++) {
                membersRefused(scene, u, u);
            }
        }
    }

    private static void membersRefused(int scene, int u, int v) {
        Net x = Scenes.make(scene);
        String pair = Scenes.NAMES[scene] + ": " + u + ", " + v;
        Check.due("members of trust, " + pair, x.trust(u, v, 0), -1);
        Check.due("members of withdraw, " + pair, x.withdraw(u, v, 0), -1);
        Check.due("members of pay, " + pair, x.pay(u, v, 0), -1);
        Check.due("members of gather, " + pair, x.gather(u, v, 0), -1);
        Check.due("members of trusted, " + pair, x.trusted(u, v), -1);
        Check.due("members of most, " + pair, x.most(u, v), -1);
        Check.due("members of leastDebt, " + pair, x.leastDebt(u, v), -100000);
        Check.due("members of greatestDebt, " + pair, x.greatestDebt(u, v), -100000);
    }

    /** "The calls below change nothing." */
    private static void callsBelowChangeNothing() {
        for (int scene = 0; scene < Scenes.NAMES.length; scene++) {
            List<Integer> before = Scenes.look(Scenes.make(scene));
            for (Due ask : asks()) {
                Net x = Scenes.make(scene);
                int first = ask.call.on(x);
                String name = Scenes.NAMES[scene] + ": " + ask.name;
                Check.due(name + " again", ask.call.on(x), first);
                Check.holds(name + " changes nothing", Scenes.look(x).equals(before));
            }
        }
    }

    private static List<Due> asks() {
        List<Due> list = new ArrayList<>();
        for (int[] pair : new int[][] {{0, 1}, {1, 0}, {0, 6}, {6, 0}, {3, 2}, {2, 3}, {5, 5}}) {
            int u = pair[0];
            int v = pair[1];
            String of = " of " + u + ", " + v;
            list.add(new Due("trusted" + of, 0, x -> x.trusted(u, v)));
            list.add(new Due("most" + of, 0, x -> x.most(u, v)));
            list.add(new Due("leastDebt" + of, 0, x -> x.leastDebt(u, v)));
            list.add(new Due("greatestDebt" + of, 0, x -> x.greatestDebt(u, v)));
            list.add(new Due("position of " + u, 0, x -> x.position(u)));
            list.add(new Due("spread" + of, 0, x -> x.spread(u, 1 << v)));
            list.add(new Due("spread to all of " + u, 0, x -> x.spread(u, 127 - (1 << u))));
            list.add(new Due("open of " + u, 0, x -> x.open(u)));
        }
        list.add(new Due("debts", 0, Net::debts));
        list.add(new Due("open of lowest", 0, x -> x.open(LOWEST)));
        list.add(new Due("open of highest", 0, x -> x.open(HIGHEST)));
        list.add(new Due("position of 7", 0, x -> x.position(7)));
        return list;
    }

    /** "An object is used for at most 512 calls after it has been made" */
    private static void fiveHundredAndTwelveCalls() {
        Net raised = new Net();
        for (int call = 1; call <= Net.CALLS; call++) {
            Check.due("call " + call + ": trust", raised.trust(4, 2, 1), call);
        }
        Net paid = new Net();
        paid.trust(4, 2, 1000);
        for (int call = 2; call <= Net.CALLS; call++) {
            Check.due("call " + call + ": pay", paid.pay(2, 4, 1), 1 - call);
        }
        Net listed = new Net();
        for (int call = 1; call <= Net.CALLS; call += 8) {
            for (int i = 1; i <= 7; i++) {
                Check.due("call " + (call + i - 1) + ": gather", listed.gather(0, i % 2 + 1, i), i == 7 ? -3 : i);
            }
            Check.due("call " + (call + 7) + ": forget", listed.forget(), 6);
        }
        Net cleared = new Net();
        cleared.trust(6, 3, 1000);
        for (int call = 2; call + 2 <= Net.CALLS; call += 3) {
            Check.due("call " + call + ": gather", cleared.gather(3, 6, 3), 1);
            Check.due("call " + (call + 1) + ": clear", cleared.clear(), 1);
            Check.due("call " + (call + 2) + ": position", cleared.position(3), -call - 1);
        }
        Net asked = Scenes.make(4);
        while (asked.left() > 0) {
            Check.due("debts with " + asked.left() + " calls left", asked.debts(), 11000);
        }
    }
}
