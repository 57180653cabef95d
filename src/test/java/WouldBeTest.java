/** Promises 18 to 22: what would be. */
public final class WouldBeTest {
    private static final Class<IllegalArgumentException> IAE = IllegalArgumentException.class;
    private static final Class<IllegalStateException> ISE = IllegalStateException.class;
    private static final Class<IndexOutOfBoundsException> IOOBE = IndexOutOfBoundsException.class;
    private static final int NONE = LendingCells.NONE;
    private static final Check CHECK = new Check();

    public static void main(String[] args) {
        promise18Holds();
        promise19Draws();
        promise20Most();
        promise21Sizes();
        promise21None();
        promise21Wrong();
        promise22Costs();
        promise22Gone();
        promise22Wrong();
        nothingChanges();
        CHECK.end();
    }

    private static void promise18Holds() {
        // Interest of 1 a round: with a charge of 97 it is missed first in round 98, and the cell falls in round 100.
        CHECK.is("18: 100", Runs.loaded("Bc10050c99960l010101").holds(1), 100);
        CHECK.is("18: 101", Runs.loaded("Bc10050c99970l010101").holds(1), NONE);
        CHECK.is("18: 99", Runs.loaded("Bc10050c99950l010101").holds(1), 99);
        LendingCells x = Runs.loaded("Bc20100c20003l010150c20000");
        CHECK.is("18: at once", x.holds(1), 3);
        CHECK.is("18: the lender", x.holds(0), NONE);
        CHECK.is("18: without loans", x.holds(2), NONE);
        x.pass(1);
        CHECK.is("18: late already", x.holds(1), 2);
        x.pass(1);
        CHECK.is("18: next round", x.holds(1), 1);
        x.pass(1);
        CHECK.is("18: bankrupt", x.holds(1), 0);
        CHECK.is("18: bankrupt itself", x.about(9), 2);
        for (int c : new int[] {-1, 3, Integer.MIN_VALUE, Integer.MAX_VALUE}) {
            CHECK.refuses("18: cell " + c, IOOBE, () -> x.holds(c));
        }
        CHECK.refuses("18: no cells", IOOBE, () -> new LendingCells().holds(0));
    }

    private static void promise19Draws() {
        LendingCells x = Runs.loaded("Bc99990");
        CHECK.is("19: by 10", x.draws(10), 9);
        CHECK.is("19: by 99", x.draws(99), 1);
        CHECK.is("19: by 1", x.draws(1), 99);
        CHECK.is("19: by 50", x.draws(50), 1);
        CHECK.is("19: none", Runs.loaded("Bc99090").draws(10), 0);
        CHECK.is("19: no cells", new LendingCells().draws(1), 0);
        CHECK.is("19: eight full ones", Runs.loaded("B" + "c99990".repeat(8)).draws(1), 99);
        // 40 and 0: each time 5 are lent and 5 given by both, until the lender would keep less than 5.
        CHECK.is("19: with loans", Runs.loaded("Bc50400c50000").draws(5), 4);
        // 99 and 0: 12 loans, and no more.
        CHECK.is("19: twelve loans", Runs.loaded("Bc99990c99000").draws(1), 12);
        for (int n : new int[] {0, 100, -1, Integer.MIN_VALUE, Integer.MAX_VALUE}) {
            CHECK.refuses("19: " + n, IAE, () -> x.draws(n));
            CHECK.refuses("19: no cells, " + n, IAE, () -> new LendingCells().draws(n));
        }
        // As many times as draw can be called.
        LendingCells y = Runs.loaded("Bc80770c60120c99550c10100c70213");
        int times = y.draws(7);
        for (int k = 0; k < times; k++) {
            y.draw(7);
        }
        CHECK.refuses("19: not once more", ISE, () -> y.draw(7));
        CHECK.is("19: not once more", y.draws(7), 0);
    }

    private static void promise20Most() {
        CHECK.is("20: no cells", new LendingCells().most(), 0);
        CHECK.is("20: empty", Runs.loaded("Bc99000").most(), 0);
        CHECK.is("20: the least", Runs.loaded("Bc99010").most(), 1);
        CHECK.is("20: alone", Runs.loaded("Bc99470").most(), 47);
        CHECK.is("20: all", Runs.loaded("Bc99990c99990").most(), 99);
        // With 19, 19 are lent and 21 left; with 20, 21 are lent and 19 left.
        LendingCells x = Runs.loaded("Bc50400c50000");
        CHECK.is("20: with a loan", x.most(), 19);
        CHECK.refuses("20: 20", ISE, () -> x.draw(20));
        CHECK.is("20: 19", x.draw(19), 38);
        CHECK.is("20: the least capacity", Runs.loaded("Bc99990c10000").most(), 10);
        LendingCells twelve = Runs.loaded("Bc99990c99000" + "l010100".repeat(12));
        CHECK.is("20: twelve loans", twelve.most(), 12);
        LendingCells fallen = Runs.loaded("Bc99500c10003l010150");
        fallen.pass(3);
        CHECK.is("20: a bankrupt one need not give", fallen.most(), 49);
    }

    private static void promise21Sizes() {
        LendingCells x = Runs.loaded("Bc50000c50200c50500");
        CHECK.is("21: sizes of 10 and 11", x.bestLender(0, 10), 1);
        CHECK.is("21: both of size 3, more charge", x.bestLender(0, 3), 2);
        CHECK.is("21: size 20 is 21", x.bestLender(0, 20), 2);
        CHECK.is("21: 19 from the nearer one", x.bestLender(0, 19), 1);
        CHECK.is("21: all of the farther one", x.bestLender(0, 45), 2);
        CHECK.is("21: 46 would be 51", x.bestLender(0, 46), NONE);
        CHECK.is("21: of others", x.bestLender(1, 30), 2);
        LendingCells tie = Runs.loaded("Bc50050c50090c50000c50090c50030");
        CHECK.is("21: the lowest of several", tie.bestLender(2, 3), 1);
        CHECK.is("21: the greatest of several", tie.bestLender(0, 3), 1);
        tie.setLeak(3, 0);
        tie.lend(1, 4, 1, 0);
        CHECK.is("21: the greatest of several", tie.bestLender(2, 3), 3);
        CHECK.is("21: the smaller size, not the charge", Runs.loaded("Bc50000c50120c99990").bestLender(0, 12), 1);
        LendingCells wide = Runs.loaded("Bc99000" + "c99000".repeat(6) + "c99990");
        CHECK.is("21: 65 of 99", wide.bestLender(0, 65), 7);
        CHECK.is("21: no 66", wide.bestLender(0, 66), NONE);
        CHECK.is("21: no 99", wide.bestLender(0, 99), NONE);
        LendingCells many = Runs.loaded("Bc99990c99000" + "l010100".repeat(12));
        CHECK.is("21: the number of loans does not count", many.bestLender(1, 5), 0);
    }

    private static void promise21None() {
        LendingCells x = Runs.loaded("Bc10050c99990");
        CHECK.is("21: just full", x.bestLender(0, 5), 1);
        CHECK.is("21: too much for it", x.bestLender(0, 6), NONE);
        CHECK.is("21: the other is full", x.bestLender(1, 1), NONE);
        CHECK.is("21: alone", Runs.loaded("Bc50200").bestLender(0, 1), NONE);
        LendingCells fallen = Runs.loaded("Bc99500c99003l010150c50500");
        fallen.pass(3);
        CHECK.is("21: bankrupt", fallen.bestLender(1, 1), NONE);
        CHECK.is("21: not from a bankrupt one", fallen.bestLender(0, 1), 2);
    }

    private static void promise21Wrong() {
        LendingCells x = Runs.loaded("Bc10050c99990");
        for (int c : new int[] {-1, 2, Integer.MIN_VALUE, Integer.MAX_VALUE}) {
            CHECK.refuses("21: cell " + c, IOOBE, () -> x.bestLender(c, 1));
            CHECK.refuses("21: the cell comes first " + c, IOOBE, () -> x.bestLender(c, 0));
        }
        for (int n : new int[] {0, 100, -1, Integer.MIN_VALUE, Integer.MAX_VALUE}) {
            CHECK.refuses("21: " + n, IAE, () -> x.bestLender(0, n));
        }
        LendingCells fallen = Runs.loaded("Bc99500c99003l010150");
        fallen.pass(3);
        CHECK.refuses("21: bankrupt, but 0", IAE, () -> fallen.bestLender(1, 0));
    }

    private static void promise22Costs() {
        // The borrower has 8 and burns 2 a round.
        LendingCells x = Runs.loaded("Bc50500c50000l010820");
        CHECK.is("22: 1", x.costs(0, 1), 2);
        CHECK.is("22: 3", x.costs(0, 3), 6);
        CHECK.is("22: 4", x.costs(0, 4), 8);
        CHECK.is("22: 5", x.costs(0, 5), 8);
        CHECK.is("22: 50", x.costs(0, 50), 8);
        // 7 and 2 a round: 5, 3, 1, and then all that is left.
        LendingCells y = Runs.loaded("Bc50500c50000l010725");
        CHECK.is("22: all its charge", y.costs(0, 4), 7);
        CHECK.is("22: before", y.costs(0, 3), 6);
        CHECK.is("22: no interest", Runs.loaded("Bc50500c50000l011000").costs(0, 50), 0);
        // Each loan for itself: 3 and 1 a round of 10 + 1.
        LendingCells two = Runs.loaded("Bc50500c50000l011030l010101");
        CHECK.is("22: the first", two.costs(0, 2), 6);
        CHECK.is("22: the second", two.costs(1, 2), 2);
        CHECK.is("22: the first, to the end", two.costs(0, 10), 9);
        CHECK.is("22: the second, to the end", two.costs(1, 10), 2);
    }

    private static void promise22Gone() {
        // The first loan is gone in the third round; the second one is watched on, also as loan 0.
        LendingCells x = Runs.loaded("Bc99990c10003c50000l010150l022010");
        CHECK.is("22: after another is gone", x.costs(1, 5), 10);
        CHECK.is("22: to the end", x.costs(1, 50), 18);
        CHECK.is("22: the leak took all", x.costs(0, 50), 0);
        // Loans behind a watched one that is gone are not taken for it.
        LendingCells y = Runs.loaded("Bc99990c10003c50000l010450l022010");
        CHECK.is("22: gone", y.costs(0, 50), 1);
        // The lender falls in the third round: from then on the loan costs nothing.
        LendingCells z = Runs.loaded("Bc99990c50103c50000l121010l010150");
        CHECK.is("22: the lender falls", z.costs(0, 50), 3);
        CHECK.is("22: two rounds", z.costs(0, 2), 2);
        // Of several loans that go in one round.
        LendingCells many = Runs.loaded("Bc99990c10003c50000l010150l010150l020110l010150l022010");
        CHECK.is("22: the last", many.costs(4, 4), 8);
        CHECK.is("22: the middle", many.costs(2, 4), 4);
        CHECK.is("22: among those gone", many.costs(1, 40), 0);
    }

    private static void promise22Wrong() {
        LendingCells x = Runs.loaded("Bc50500c50000l010820");
        for (int i : new int[] {-1, 1, Integer.MIN_VALUE, Integer.MAX_VALUE}) {
            CHECK.refuses("22: loan " + i, IOOBE, () -> x.costs(i, 1));
            CHECK.refuses("22: the loan comes first " + i, IOOBE, () -> x.costs(i, 0));
        }
        for (int rounds : new int[] {0, 51, -1, Integer.MIN_VALUE, Integer.MAX_VALUE}) {
            CHECK.refuses("22: " + rounds, IAE, () -> x.costs(0, rounds));
        }
    }

    private static void nothingChanges() {
        LendingCells x = Runs.loaded("Bc99990c10003c50000c30040l010150l022010");
        x.save(1);
        x.pass(1);
        String before = Runs.state(x);
        x.holds(1);
        CHECK.is("18: changes nothing", Runs.state(x), before);
        x.draws(3);
        CHECK.is("19: changes nothing", Runs.state(x), before);
        x.most();
        CHECK.is("20: changes nothing", Runs.state(x), before);
        x.bestLender(1, 3);
        CHECK.is("21: changes nothing", Runs.state(x), before);
        x.costs(1, 50);
        CHECK.is("22: changes nothing", Runs.state(x), before);
        CHECK.is("18 to 22: no actions", x.undo(), 0);
        CHECK.is("18 to 22: the slot is kept", x.restore(1), 101);
    }
}
