/**
 * The sentences of the promises that name a boundary case, each with a test of its own: too small, too
 * large, empty, full, numbers that wrap around. What binds all calls alike is in TermsTest.
 */
public final class BoundariesTest {
    private static final int MEMBERS = Scenes.MEMBERS;
    private static final int LOWEST = Scenes.LOWEST;
    private static final int HIGHEST = Scenes.HIGHEST;

    /** What a pair of different members is tested for. */
    private interface PairTest {
        void of(int u, int v);
    }

    private BoundariesTest() {
    }

    public static void main(String[] args) {
        newObject();
        forEachPair(BoundariesTest::trustAmount);
        forEachPair(BoundariesTest::withdrawAmount);
        forEachPair(BoundariesTest::withdrawPossible);
        withdrawPossibleByOthers();
        forEachPair(BoundariesTest::payAmount);
        forEachPair(BoundariesTest::payCanNotBeMade);
        payAnswersThePosition();
        forEachPair(BoundariesTest::gatherAmount);
        gatherListHasSix();
        gatherEachPlaceOfTheList();
        clearPositionsBetween();
        forEachPair(BoundariesTest::clearEdgeOfThePossible);
        clearEdgeOfASet();
        clearListIsEmptyThen();
        clearRefusedKeepsTheList();
        clearAnswersHowMany();
        forgetListBecomesEmpty();
        forEachPair(BoundariesTest::trustedIsOneWay);
        positionOfNoMember();
        forEachPair(BoundariesTest::mostOfNothingAndOfAll);
        mostThroughANarrowPlace();
        spreadArguments();
        spreadInAll();
        spreadOfOneIsMost();
        forEachPair(BoundariesTest::debtArguments);
        debtEdgesOfTheTrust();
        debtEdgesOfARing();
        debtsOfNothingAndOfAll();
        openAtLeast();
        openOfAnyAmount();
        Check.end();
    }

    private static void forEachPair(PairTest test) {
        for (int u = 0; u < MEMBERS; u++) {
            for (int v = 0; v < MEMBERS; v++) {
                if (u != v) {
                    test.of(u, v);
                }
            }
        }
    }

    private static int firstBeside(int first, int second, int third) {
        int member = 0;
        while (member == first || member == second || member == third) {
            member++;
        }
        return member;
    }

    private static String name(String method, int u, int v, int amount) {
        return method + "(" + u + ", " + v + ", " + amount + ")";
    }

    /** Promise 1: "All trust is 0, all positions are 0." */
    private static void newObject() {
        Net x = new Net();
        Net other = Scenes.make(4);
        Check.due("another one is in use", other.position(6), 6000);
        for (int u = 0; u < MEMBERS; u++) {
            Check.due("new: position " + u, x.position(u), 0);
            for (int v = 0; v < MEMBERS; v++) {
                Check.due("new: trusted " + u + ", " + v, x.trusted(u, v), u == v ? -1 : 0);
            }
        }
        Check.due("new: the list", x.forget(), 0);
    }

    /** Promise 2: "amount is below 0, or t(u, v) would be above 1000: -2" */
    private static void trustAmount(int u, int v) {
        for (int t : new int[] {0, 1, 499, 500, 501, 999, 1000}) {
            int[] amounts = {
                LOWEST, LOWEST + 1, -1001, -1000, -t - 1, -1, 0, 1, 1000 - t, 1001 - t, 1000, 1001, 2000,
                HIGHEST - 1000, HIGHEST - t, HIGHEST - t + (t > 0 ? 1 : 0), HIGHEST - 1, HIGHEST,
            };
            for (int amount : amounts) {
                Net x = new Net();
                Check.due(name("trust", u, v, t), x.trust(u, v, t), t);
                long after = (long) t + amount;
                int want = amount < 0 || after > 1000 ? -2 : (int) after;
                Check.due("at " + t + " " + name("trust", u, v, amount), x.trust(u, v, amount), want);
                Check.due("at " + t + " then", x.trusted(u, v), want < 0 ? t : want);
                Check.due("at " + t + " the other way", x.trusted(v, u), 0);
            }
        }
    }

    /** Promise 3: "amount is below 0 or above t(u, v): -2" */
    private static void withdrawAmount(int u, int v) {
        for (int t : new int[] {0, 1, 2, 500, 999, 1000}) {
            int[] amounts = {
                LOWEST, LOWEST + 1, LOWEST + t, -1000, t - 1001, -t - 1, -1, 0, 1, t - 1, t, t + 1, 1000, 1001,
                HIGHEST - 1, HIGHEST,
            };
            for (int amount : amounts) {
                Net x = new Net();
                x.trust(u, v, t);
                int want = amount < 0 || amount > t ? -2 : t - amount;
                Check.due("at " + t + " " + name("withdraw", u, v, amount), x.withdraw(u, v, amount), want);
                Check.due("at " + t + " then", x.trusted(u, v), want < 0 ? t : want);
            }
        }
    }

    /** Promise 3: "the positions there are would not be possible any more: -3" */
    private static void withdrawPossible(int u, int v) {
        for (int owed : new int[] {0, 1, 6, 9, 10}) {
            for (int amount = 0; amount <= 11; amount++) {
                Net x = new Net();
                x.trust(u, v, 10);
                x.trust(v, u, 3);
                x.pay(v, u, owed);
                int want = amount > 10 ? -2 : amount > 10 - owed ? -3 : 10 - amount;
                String name = "owed " + owed + " " + name("withdraw", u, v, amount);
                Check.due(name, x.withdraw(u, v, amount), want);
                Check.due(name + " then", x.trusted(u, v), want < 0 ? 10 : want);
                Check.due(name + " position", x.position(u), owed);
                // What the debtor lets the other owe is free to go.
                Check.due(name + " and the other", x.withdraw(v, u, 3), 0);
            }
        }
    }

    private static void withdrawPossibleByOthers() {
        Net x = new Net();
        for (int w = 1; w < 6; w++) {
            x.trust(w, 0, 10);
            x.trust(6, w, 10);
        }
        x.pay(0, 6, 41);
        // Nine of the fifty are spare, wherever they lie.
        for (int w = 1; w < 6; w++) {
            Check.due("by others: " + w + " ten", x.withdraw(w, 0, 10), -3);
            Check.due("by others: 6 ten of " + w, x.withdraw(6, w, 10), -3);
        }
        Check.due("by others: four", x.withdraw(2, 0, 4), 6);
        Check.due("by others: six more", x.withdraw(3, 0, 6), -3);
        Check.due("by others: five more", x.withdraw(3, 0, 5), 5);
        Check.due("by others: one more", x.withdraw(4, 0, 1), -3);
        Check.due("by others: on the same road", x.withdraw(6, 2, 4), 6);
        Check.due("by others: too much there", x.withdraw(6, 2, 1), -3);
    }

    /** Promise 4: "amount is below 0: -2" */
    private static void payAmount(int u, int v) {
        for (int amount : new int[] {LOWEST, LOWEST + 1, LOWEST + 4, -12000, -1000, -5, -4, -1}) {
            Net x = new Net();
            x.trust(v, u, 9);
            x.trust(u, v, 9);
            x.pay(u, v, 4);
            Check.due(name("pay", u, v, amount), x.pay(u, v, amount), -2);
            Check.due(name("pay", v, u, amount), x.pay(v, u, amount), -2);
            Check.due(name("pay", u, v, amount) + " then", x.position(u), -4);
            Check.due("pay 0 is not below", x.pay(u, v, 0), -4);
        }
    }

    /** Promise 4: "it can not be made: -3" */
    private static void payCanNotBeMade(int u, int v) {
        int[] amounts = {
            7, 8, 1000, 6001, 12001, 42000, 65536, 1 << 24, 1 << 29, 1 << 30, 3 << 29, HIGHEST - 42000,
            HIGHEST - 1000, HIGHEST - 10, HIGHEST - 4, HIGHEST - 3, HIGHEST - 1, HIGHEST,
        };
        for (int amount : amounts) {
            Net x = new Net();
            x.trust(v, u, 10);
            x.pay(u, v, 4);
            Check.due(name("pay", u, v, amount), x.pay(u, v, amount), -3);
            Check.due(name("pay", v, u, amount), x.pay(v, u, amount), -3);
            Check.due(name("pay", u, v, amount) + " then", x.position(u), -4);
            Check.due(name("pay", u, v, amount) + " and then all", x.pay(u, v, 6), -10);
        }
        Net x = new Net();
        Check.due(name("pay", u, v, 1) + " without trust", x.pay(u, v, 1), -3);
        Check.due(name("pay", u, v, 0) + " without trust", x.pay(u, v, 0), 0);
    }

    /** Promise 4: "Else answers the position of u." The positions -1, -2 and -3 are no refusals. */
    private static void payAnswersThePosition() {
        Net x = new Net();
        x.trust(1, 0, 9);
        x.trust(0, 1, 9);
        for (int paid = 1; paid <= 9; paid++) {
            Check.due("pay one by one: " + paid, x.pay(0, 1, 1), -paid);
            Check.due("pay one by one: payee at " + paid, x.position(1), paid);
        }
        Check.due("pay one by one: the end", x.pay(0, 1, 1), -3);
        Check.due("pay one by one: at the end", x.position(0), -9);
        Check.due("pay from above 0", x.pay(1, 0, 5), 4);
        Check.due("pay from above 0 to 0", x.pay(1, 0, 4), 0);
        Check.due("pay from 0", x.pay(1, 0, 3), -3);
        Check.due("was no refusal", x.position(0), 3);
    }

    /** Promise 5: "amount is below 0 or above 10000: -2" */
    private static void gatherAmount(int u, int v) {
        Net x = new Net();
        for (int amount : new int[] {LOWEST, LOWEST + 1, -10000, -1, 10001, 10002, 65536, 1 << 30, HIGHEST - 1, HIGHEST}) {
            Check.due(name("gather", u, v, amount), x.gather(u, v, amount), -2);
        }
        int listed = 0;
        for (int amount : new int[] {0, 1, 9999, 10000}) {
            listed++;
            Check.due(name("gather", u, v, amount), x.gather(u, v, amount), listed);
        }
        Check.due("gather back what was gathered", x.gather(v, u, 10000), 5);
        Check.due("gather back the rest", x.gather(v, u, 10000), 6);
        Check.due("they are all there", x.clear(), 6);
        Check.due("and amount to nothing", x.position(u), 0);
    }

    /** Promise 5: "the list has 6: -3" */
    private static void gatherListHasSix() {
        Net x = new Net();
        x.trust(3, 4, 1000);
        for (int time = 0; time < 12; time++) {
            for (int i = 1; i <= 6; i++) {
                Check.due("gather " + i, x.gather(4, 3, i), i);
                Check.due("a refused one is not counted", x.gather(4, 4, i), -1);
                Check.due("nor one that is too large", x.gather(4, 3, 10001), -2);
            }
            Check.due("gather a seventh", x.gather(4, 3, 1), -3);
            Check.due("gather a seventh, 0", x.gather(0, 1, 0), -3);
            Check.due("gather a seventh of the greatest", x.gather(4, 3, 10000), -3);
            // The list is made empty in turn by forget and by clear.
            int made = time % 2 == 0 ? x.forget() : x.clear();
            Check.due("the list had six", made, 6);
            Check.due("only the six were made", x.position(3), (time + 1) / 2 * 21);
        }
        for (int i = 1; i <= 6; i++) {
            x.gather(4, 3, 10000);
        }
        Check.due("clear of too much", x.clear(), -3);
        Check.due("the list has six still", x.gather(4, 3, 1), -3);
    }

    /** Promise 5: "Puts a payment on a list": each place bears its own payer, payee and amount. */
    private static void gatherEachPlaceOfTheList() {
        Net x = new Net();
        for (int u = 0; u < MEMBERS; u++) {
            x.trust(u, (u + 1) % MEMBERS, 1000);
        }
        for (int i = 0; i < 6; i++) {
            x.gather(i + 1, i, 1 << i);
        }
        Check.due("six of six kinds", x.clear(), 6);
        Check.due("the first payee", x.position(0), 1);
        for (int u = 1; u < 6; u++) {
            Check.due("between: " + u, x.position(u), (1 << u) - (1 << u - 1));
        }
        Check.due("the last payer", x.position(6), -32);
    }

    /** Promise 6: "if the positions after all of them are possible (those between need not be)" */
    private static void clearPositionsBetween() {
        Net x = new Net();
        x.gather(0, 1, 10000);
        x.gather(1, 2, 10000);
        x.gather(2, 0, 10000);
        Check.due("a ring without trust", x.clear(), 3);
        Check.due("a ring without trust: debts", x.debts(), 0);
        for (int i = 0; i < 3; i++) {
            x.gather(5, 6, 10000);
        }
        for (int i = 0; i < 3; i++) {
            x.gather(6, 5, 10000);
        }
        Check.due("thirty thousand and back", x.clear(), 6);
        Check.due("thirty thousand and back: debts", x.debts(), 0);
        x.trust(6, 5, 2);
        for (int first = 0; first < 2; first++) {
            x.gather(5, 6, 100);
            x.gather(6, 5, 99);
            Check.due("all but one come back", x.clear(), 2);
            Check.due("all but one come back: position", x.position(5), -1 - first);
        }
        x.gather(6, 5, 99);
        x.gather(5, 6, 100);
        Check.due("the last one does not", x.clear(), -3);
    }

    /** Promise 6: "They are not: -3." Just possible and just not, straight and over one member for two. */
    private static void clearEdgeOfThePossible(int u, int v) {
        int w = firstBeside(u, v, v);
        int last = firstBeside(u, v, w);
        for (int over = 0; over <= 1; over++) {
            Net one = new Net();
            one.trust(v, u, 6);
            one.gather(u, v, 3);
            one.gather(u, v, 3 + over);
            Check.due("clear, one payee, over " + over, one.clear(), over == 0 ? 2 : -3);
            Check.due("clear, one payee, payer's position", one.position(u), over == 0 ? -6 : 0);
            Check.due("clear, one payee, payee's position", one.position(v), over == 0 ? 6 : 0);
            Net two = new Net();
            two.trust(w, u, 6);
            two.trust(v, w, 9);
            two.trust(last, w, 9);
            two.gather(u, v, 3);
            two.gather(u, last, 3 + over);
            Check.due("clear, two payees, over " + over, two.clear(), over == 0 ? 2 : -3);
            Check.due("clear, two payees, position", two.position(u), over == 0 ? -6 : 0);
        }
    }

    private static void clearEdgeOfASet() {
        for (int over = 0; over <= 1; over++) {
            Net set = new Net();
            for (int u = 0; u < 3; u++) {
                for (int v = 3; v < MEMBERS; v++) {
                    set.trust(v, u, 1000);
                }
            }
            for (int u = 0; u < 3; u++) {
                set.gather(u, u + 3, 3000);
                set.gather(u, 6, 1000 + (u == 2 ? over : 0));
            }
            Check.due("clear, three pay four, over " + over, set.clear(), over == 0 ? 6 : -3);
            Check.due("clear, three pay four, payee", set.position(6), over == 0 ? 3000 : 0);
        }
        Net lost = new Net();
        lost.trust(1, 0, 6);
        lost.gather(0, 1, 6);
        lost.withdraw(1, 0, 1);
        Check.due("clear looks at the trust there is", lost.clear(), -3);
        lost.trust(1, 0, 1);
        Check.due("clear when it is there again", lost.clear(), 1);
    }

    /** Promise 6: "the list is empty then" */
    private static void clearListIsEmptyThen() {
        Net x = new Net();
        x.trust(1, 0, 1000);
        for (int count = 0; count <= 6; count++) {
            for (int i = 0; i < count; i++) {
                x.gather(0, 1, 2);
            }
            int position = x.position(0) - 2 * count;
            Check.due("clear of " + count, x.clear(), count);
            Check.due("clear of " + count + ": position", x.position(0), position);
            Check.due("clear of " + count + ", then of none", x.clear(), 0);
            Check.due("clear of none moves nothing", x.position(0), position);
            Check.due("forget after clear", x.forget(), 0);
            Check.due("clear of none once more", x.clear(), 0);
        }
    }

    /** Promise 6 with "A refused call changes nothing": the list stays as it is. */
    private static void clearRefusedKeepsTheList() {
        for (int count = 1; count <= 6; count++) {
            Net x = new Net();
            x.trust(1, 0, count * 10 - 1);
            for (int i = 0; i < count; i++) {
                x.gather(0, 1, 10);
            }
            Check.due("clear of " + count + ", one too much", x.clear(), -3);
            Check.due("again", x.clear(), -3);
            Check.due("nothing was paid", x.position(0), 0);
            Check.due("nothing was received", x.position(1), 0);
            x.trust(1, 0, 1);
            Check.due("clear of " + count + ", when it can be", x.clear(), count);
            Check.due("all was paid", x.position(0), -10 * count);
            Net y = new Net();
            for (int i = 0; i < count; i++) {
                y.gather(0, 1, 10000);
            }
            Check.due("clear of " + count + " without trust", y.clear(), -3);
            Check.due("the list to be forgotten", y.forget(), count);
            Check.due("the list is gone", y.clear(), 0);
        }
    }

    /** Promise 6: "Else answers how many payments were made." Payments of 0 are payments. */
    private static void clearAnswersHowMany() {
        Net x = new Net();
        Check.due("clear of an empty list", x.clear(), 0);
        for (int count = 0; count <= 6; count++) {
            for (int i = 0; i < count; i++) {
                x.gather(i, i + 1, 0);
            }
            Check.due("clear of " + count + " of nothing", x.clear(), count);
        }
        Check.due("nothing was paid", x.debts(), 0);
    }

    /** Promise 7: "The list becomes empty. Answers how many payments it had." */
    private static void forgetListBecomesEmpty() {
        Net x = new Net();
        x.trust(1, 0, 1000);
        for (int count = 0; count <= 6; count++) {
            for (int i = 0; i < count; i++) {
                x.gather(0, 1, i);
            }
            Check.due("forget " + count, x.forget(), count);
            Check.due("forget none", x.forget(), 0);
            Check.due("clear none", x.clear(), 0);
            Check.due("forget moves nothing", x.position(0), 0);
            Check.due("gather on an empty list", x.gather(0, 1, 1), 1);
            Check.due("forget it", x.forget(), 1);
        }
    }

    /** Promise 8: "t(u, v)": the trust of u in v and not that of v in u, whatever has been paid. */
    private static void trustedIsOneWay(int u, int v) {
        Net x = new Net();
        x.trust(u, v, 1000);
        Check.due(name("trusted", u, v, 0), x.trusted(u, v), 1000);
        Check.due(name("trusted", v, u, 0), x.trusted(v, u), 0);
        x.pay(v, u, 1000);
        Check.due(name("trusted", u, v, 0) + " all used", x.trusted(u, v), 1000);
        Check.due(name("trusted", v, u, 0) + " all used", x.trusted(v, u), 0);
        for (int w = 0; w < MEMBERS; w++) {
            Check.due("trusted of " + w + " by itself", x.trusted(w, w), -1);
            if (w != u && w != v) {
                Check.due(name("trusted", u, w, 0), x.trusted(u, w), 0);
                Check.due(name("trusted", w, v, 0), x.trusted(w, v), 0);
            }
        }
    }

    /** Promise 9: "0 for no member" */
    private static void positionOfNoMember() {
        Net x = new Net();
        for (int u = 0; u < 6; u++) {
            x.trust(u + 1, u, 1000);
            x.pay(u, u + 1, 1 << u);
        }
        for (int u = 0; u < MEMBERS; u++) {
            int in = u == 0 ? 0 : 1 << u - 1;
            int out = u == 6 ? 0 : 1 << u;
            Check.due("position " + u, x.position(u), in - out);
        }
        for (int no : Scenes.NO_MEMBERS) {
            Check.due("position " + no, x.position(no), 0);
        }
    }

    /** Promise 10: "The greatest amount of a payment from u to v that can be made." */
    private static void mostOfNothingAndOfAll(int u, int v) {
        Net x = new Net();
        Check.due(name("most", u, v, 0) + " of nothing", x.most(u, v), 0);
        x.trust(u, v, 1000);
        Check.due(name("most", u, v, 0) + " of the other trust", x.most(u, v), 0);
        x.trust(v, u, 1000);
        Check.due(name("most", u, v, 0) + " straight", x.most(u, v), 1000);
        x.pay(v, u, 1000);
        Check.due(name("most", u, v, 0) + " there and back", x.most(u, v), 2000);
        Net y = Scenes.make(4);
        y.pay(6, 0, 6000);
        Check.due(name("most", u, v, 0) + " of all", y.most(u, v), 6000);
        y.pay(v, u, 6000);
        Check.due(name("most", u, v, 0) + " of all twice", y.most(u, v), 12000);
        Check.due(name("most", v, u, 0) + " of all used", y.most(v, u), 0);
    }

    private static void mostThroughANarrowPlace() {
        for (int split = 1; split < MEMBERS; split++) {
            Net x = new Net();
            for (int u = 0; u < MEMBERS; u++) {
                for (int v = 0; v < MEMBERS; v++) {
                    if (u != v && (u < split) == (v < split)) {
                        x.trust(u, v, 1000);
                    }
                }
            }
            Check.due("no way over " + split, x.most(0, 6), 0);
            x.trust(split, split - 1, 13);
            Check.due("one way over " + split, x.most(0, 6), 13);
            Check.due("one way over " + split + ", for all", x.spread(0, 128 - (1 << split)), 13);
            Check.due("no way back over " + split, x.most(6, 0), 0);
            Check.due("pay over " + split, x.pay(0, 6, 13), -13);
            Check.due("the way is full at " + split, x.most(split - 1, split), 0);
            Check.due("and free the other way", x.most(split, split - 1), 13);
        }
    }

    /** Promise 11: "u is not 0 to 6, or the set is not 1 to 127, or u is in it: -1" */
    private static void spreadArguments() {
        Net x = new Net();
        for (int u = 0; u < MEMBERS; u++) {
            for (int set = -130; set <= 260; set++) {
                x = x.left() > 0 ? x : new Net();
                boolean right = set >= 1 && set <= 127 && (set >> u & 1) == 0;
                Check.due("spread(" + u + ", " + set + ")", x.spread(u, set), right ? 0 : -1);
            }
            for (int set : new int[] {LOWEST, LOWEST + 2, LOWEST + 127, HIGHEST, HIGHEST - 1, HIGHEST - 127, 1 << 30}) {
                x = x.left() > 0 ? x : new Net();
                Check.due("spread(" + u + ", " + set + ")", x.spread(u, set), -1);
            }
        }
        for (int no : Scenes.NO_MEMBERS) {
            for (int set : new int[] {LOWEST, -1, 0, 1, 2, 64, 126, 127, 128, HIGHEST}) {
                x = x.left() > 0 ? x : new Net();
                Check.due("spread(" + no + ", " + set + ")", x.spread(no, set), -1);
            }
        }
    }

    /** Promise 11: "The greatest amount a such that u could pay in all a to members of a set" */
    private static void spreadInAll() {
        for (int over = 0; over <= 1; over++) {
            Net x = new Net();
            for (int v = 1; v < MEMBERS; v++) {
                x.trust(v, 0, v);
            }
            for (int set = 2; set < 128; set += 2) {
                int sum = 0;
                for (int v = 1; v < MEMBERS; v++) {
                    sum += (set >> v & 1) * v;
                }
                Check.due("spread(0, " + set + ")", x.spread(0, set), sum);
            }
            // The shares 1 to 6 can be paid together, and no one of them can be more.
            for (int v = 1; v < MEMBERS; v++) {
                x.gather(0, v, v + (v == 4 ? over : 0));
            }
            Check.due("shares, over " + over, x.clear(), over == 0 ? 6 : -3);
        }
        // Two payees behind one place share what goes through it, and one payee alone may have it all.
        Net y = new Net();
        y.trust(3, 0, 10);
        y.trust(1, 3, 10);
        y.trust(2, 3, 4);
        Check.due("spread behind 3, to 1", y.spread(0, 2), 10);
        Check.due("spread behind 3, to 2", y.spread(0, 4), 4);
        Check.due("spread behind 3, to both", y.spread(0, 6), 10);
        Check.due("spread to 3 and those behind", y.spread(0, 14), 10);
        Check.due("spread of 3 to both", y.spread(3, 6), 14);
        Check.due("spread of all used", y.pay(0, 1, 10), -10);
        Check.due("spread of nothing left", y.spread(0, 14), 0);
        Check.due("spread back", y.spread(1, 125), 10);
    }

    private static void spreadOfOneIsMost() {
        for (int scene = 0; scene < Scenes.NAMES.length; scene++) {
            Net x = Scenes.make(scene);
            for (int u = 0; u < MEMBERS; u++) {
                for (int v = 0; v < MEMBERS; v++) {
                    int most = x.most(u, v);
                    Check.due(Scenes.NAMES[scene] + ": spread of one", x.spread(u, 1 << v), most);
                }
            }
        }
    }

    /** Promises 12 and 13: "Members, or u is greater than v: -100000" */
    private static void debtArguments(int u, int v) {
        Net x = new Net();
        Check.due(name("leastDebt", u, v, 0), x.leastDebt(u, v), u < v ? 0 : -100000);
        Check.due(name("greatestDebt", u, v, 0), x.greatestDebt(u, v), u < v ? 0 : -100000);
        x.trust(v, u, 5);
        x.pay(u, v, 3);
        Check.due(name("leastDebt", u, v, 0) + " owed", x.leastDebt(u, v), u < v ? 3 : -100000);
        Check.due(name("greatestDebt", u, v, 0) + " owed", x.greatestDebt(u, v), u < v ? 3 : -100000);
        Check.due(name("leastDebt", v, u, 0) + " owed", x.leastDebt(v, u), v < u ? -3 : -100000);
        Check.due(name("greatestDebt", v, u, 0) + " owed", x.greatestDebt(v, u), v < u ? -3 : -100000);
        Check.due(name("leastDebt", u, u, 0), x.leastDebt(u, u), -100000);
        Check.due(name("greatestDebt", u, u, 0), x.greatestDebt(u, u), -100000);
    }

    /** Promises 12 and 13 where the trust of the two members is the edge: "from -t(u, v) to t(v, u)" */
    private static void debtEdgesOfTheTrust() {
        for (int u = 0; u < MEMBERS; u++) {
            for (int v = u + 1; v < MEMBERS; v++) {
                Net x = Scenes.make(4);
                x.pay(6, 0, 6000);
                String pair = " " + u + ", " + v;
                Check.due("greatest trust: least" + pair, x.leastDebt(u, v), -1000);
                Check.due("greatest trust: greatest" + pair, x.greatestDebt(u, v), 1000);
                x.withdraw(u, v, 1000);
                x.withdraw(v, u, 993);
                Check.due("trust of 0: least" + pair, x.leastDebt(u, v), 0);
                Check.due("trust of 7: greatest" + pair, x.greatestDebt(u, v), 7);
                // With all of u's ways used there is nothing to choose.
                x.pay(u, v, 5007);
                Check.due("all used: least" + pair, x.leastDebt(u, v), 7);
                Check.due("all used: greatest" + pair, x.greatestDebt(u, v), 7);
                x.pay(v, u, 10007);
                Check.due("all used, turned: least" + pair, x.leastDebt(u, v), 0);
                Check.due("all used, turned: greatest" + pair, x.greatestDebt(u, v), 0);
            }
        }
    }

    /** Promises 12 and 13 where a third member's trust is the edge. */
    private static void debtEdgesOfARing() {
        for (int narrow = 0; narrow <= 3; narrow++) {
            Net x = new Net();
            x.trust(4, 2, 100);
            x.trust(2, 4, 100);
            x.trust(5, 4, narrow);
            x.trust(2, 5, 100);
            Check.due("ring of " + narrow + ": greatest", x.greatestDebt(2, 4), narrow);
            Check.due("ring of " + narrow + ": least", x.leastDebt(2, 4), 0);
            Check.due("ring of " + narrow + ": next", x.greatestDebt(4, 5), narrow);
            Check.due("ring of " + narrow + ": last", x.leastDebt(2, 5), -narrow);
            x.pay(4, 2, 100);
            Check.due("ring of " + narrow + ", owed: greatest", x.greatestDebt(2, 4), narrow - 100);
            Check.due("ring of " + narrow + ", owed: least", x.leastDebt(2, 4), -100);
            x.pay(4, 2, narrow);
            Check.due("ring of " + narrow + ", all used: greatest", x.greatestDebt(2, 4), -100);
            Check.due("ring of " + narrow + ", all used: least", x.leastDebt(2, 4), -100);
            Check.due("ring of " + narrow + ", all used: next", x.leastDebt(4, 5), narrow);
        }
    }

    /** Promise 14: "The least sum, over all pairs u less than v, of the absolute values of b(u, v)" */
    private static void debtsOfNothingAndOfAll() {
        Net x = new Net();
        Check.due("debts of a new object", x.debts(), 0);
        x.trust(0, 1, 1000);
        Check.due("debts of trust alone", x.debts(), 0);
        x.pay(1, 0, 1);
        Check.due("debts of one", x.debts(), 1);
        x.pay(0, 1, 1);
        Check.due("debts paid back", x.debts(), 0);
        Net ring = new Net();
        for (int u = 0; u < MEMBERS; u++) {
            ring.trust((u + 1) % MEMBERS, u, 1000);
        }
        for (int u = 0; u < 6; u++) {
            ring.pay(u, u + 1, 1000);
            Check.due("debts of a chain of " + (u + 1), ring.debts(), 1000 * (u + 1));
        }
        Check.due("all but one link", ring.position(6), 1000);
        ring.pay(6, 0, 1000);
        Check.due("debts of a ring", ring.debts(), 0);
        // In a line each unit from its one end to the other is owed six times.
        Net line = new Net();
        for (int u = 0; u < 6; u++) {
            line.trust(u + 1, u, 1000);
        }
        line.pay(0, 6, 1000);
        Check.due("debts of a line", line.debts(), 6000);
        debtsOfEverySplit();
    }

    private static void debtsOfEverySplit() {
        for (int split = 1; split < MEMBERS; split++) {
            Net x = new Net();
            for (int u = 0; u < split; u++) {
                for (int v = split; v < MEMBERS; v++) {
                    x.trust(v, u, 1000);
                    x.pay(u, v, 1000);
                }
            }
            int sum = split * (MEMBERS - split) * 1000;
            Check.due("debts of " + split + " to the others", x.debts(), sum);
            x.pay(MEMBERS - 1, 0, 1);
            Check.due("debts of one less", x.debts(), sum - 1);
        }
        Check.due("debts of one that owes all it can", Scenes.make(4).debts(), 11000);
    }

    /** Promise 15: "with most(u, v) at least an amount" */
    private static void openAtLeast() {
        Net x = new Net();
        x.trust(1, 0, 5);
        x.trust(3, 2, 6);
        x.trust(5, 4, 7);
        int[] amounts = {0, 1, 4, 5, 6, 7, 8};
        int[] wants = {42, 3, 3, 3, 2, 1, 0};
        for (int i = 0; i < amounts.length; i++) {
            Check.due("open(" + amounts[i] + ")", x.open(amounts[i]), wants[i]);
        }
        x.pay(0, 1, 5);
        Check.due("open(1) when one is turned", x.open(1), 3);
        Check.due("open(5) when one is turned", x.open(5), 3);
        x.pay(2, 3, 1);
        Check.due("open(1) with one both ways", x.open(1), 4);
        for (int scene = 0; scene < Scenes.NAMES.length; scene++) {
            for (int u = 0; u < MEMBERS; u++) {
                openBesideMost(Scenes.make(scene), u);
            }
        }
    }

    private static void openBesideMost(Net x, int u) {
        int amount = x.most(u, (u + 1) % MEMBERS);
        int same = 0;
        int more = 0;
        for (int from = 0; from < MEMBERS; from++) {
            for (int to = 0; to < MEMBERS; to++) {
                int most = from == to ? -1 : x.most(from, to);
                same += most == amount ? 1 : 0;
                more += most > amount ? 1 : 0;
            }
        }
        Check.due("open(" + amount + "), as many as most tells", x.open(amount), same + more);
        Check.due("open(" + amount + " + 1), as many as most tells", x.open(amount + 1), more);
    }

    /** Promise 15 for amounts that no payment has: nothing is refused here. */
    private static void openOfAnyAmount() {
        for (int scene = 0; scene < Scenes.NAMES.length; scene++) {
            Net x = Scenes.make(scene);
            for (int amount : new int[] {LOWEST, LOWEST + 1, -100000, -2, -1, 0}) {
                Check.due(Scenes.NAMES[scene] + ": open(" + amount + ")", x.open(amount), 42);
            }
            for (int amount : new int[] {12001, 42001, 1 << 30, HIGHEST - 1, HIGHEST}) {
                Check.due(Scenes.NAMES[scene] + ": open(" + amount + ")", x.open(amount), 0);
            }
        }
    }
}
