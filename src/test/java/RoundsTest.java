/** Promises 16 and 17: rounds and undo. */
public final class RoundsTest {
    private static final Class<IllegalArgumentException> IAE = IllegalArgumentException.class;
    private static final Class<IllegalStateException> ISE = IllegalStateException.class;
    private static final Check CHECK = new Check();

    public static void main(String[] args) {
        promise16Leak();
        promise16Interest();
        promise16OrderOfLoans();
        promise16Late();
        promise16Bankrupt();
        promise16GoneByNow();
        promise16Full();
        promise16Wrong();
        promise17EveryAction();
        promise17Fourteen();
        promise17Not();
        CHECK.end();
    }

    private static void promise16Leak() {
        LendingCells x = Runs.loaded("Bc50103c50022c50010c50001");
        CHECK.is("16: none falls", x.pass(1), 0);
        Runs.isAbout(CHECK, "16: leak", x, 4, 0, 1, 8, 13, 0, 5, 0, 0, 0);
        CHECK.is("16: 10 less 3", x.cell(0, 1), 7);
        CHECK.is("16: all of 2", x.cell(1, 1), 0);
        CHECK.is("16: no leak", x.cell(2, 1), 1);
        x.pass(50);
        Runs.isAbout(CHECK, "16: leak", x, 4, 0, 51, 1, 13, 0, 12, 0, 0, 0);
        LendingCells none = new LendingCells();
        CHECK.is("16: no cells", none.pass(50), 0);
        CHECK.is("16: no cells", none.about(2), 50);
    }

    private static void promise16Interest() {
        // The borrower has 10 and burns 3 each round: 7, 4, 1, and then too little.
        LendingCells x = Runs.loaded("Bc50500c50000l011030");
        x.pass(3);
        CHECK.is("16: burnt", x.cell(1, 1), 1);
        CHECK.is("16: burnt", x.about(6), 9);
        CHECK.is("16: not late", x.cell(1, 3), 0);
        CHECK.is("16: owed as before", x.loan(0, 2), 10);
        x.pass(1);
        CHECK.is("16: burns all", x.cell(1, 1), 0);
        CHECK.is("16: burns all", x.about(6), 10);
        CHECK.is("16: late", x.cell(1, 3), 1);
        // Just the interest is enough.
        LendingCells just = Runs.loaded("Bc50500c50000l010250");
        just.pass(2);
        CHECK.is("16: just the interest", just.cell(1, 1), 0);
        CHECK.is("16: just the interest", just.cell(1, 3), 0);
        // The leak comes first: 4 - 1 - 2 is 1, and 1 - 1 is less than the interest of 2.
        LendingCells first = Runs.loaded("Bc50500c50001l010450");
        first.pass(1);
        CHECK.is("16: the leak first", first.cell(1, 1), 1);
        first.pass(1);
        CHECK.is("16: the leak took what was left", first.cell(1, 3), 1);
        // An interest of 0 is never missed.
        LendingCells free = Runs.loaded("Bc50500c50003l010100");
        CHECK.is("16: no interest", free.pass(50), 0);
        CHECK.is("16: no interest", free.cell(1, 1), 0);
        CHECK.is("16: no interest", free.cell(1, 3), 0);
        CHECK.is("16: no interest", free.about(1), 1);
    }

    private static void promise16OrderOfLoans() {
        // Interests of 5 and 1 with a charge of 12: then 6, then 0.
        LendingCells x = Runs.loaded("Bc50500c50000l011050l010250");
        CHECK.is("16: costs of the first", x.costs(0, 2), 10);
        x.draw(1);
        // With 11, the second one burns 1 and then 0: the first takes all that is left.
        CHECK.is("16: costs of the first", x.costs(0, 3), 10);
        CHECK.is("16: costs of the second", x.costs(1, 3), 1);
        x.pass(2);
        CHECK.is("16: the second is missed", x.cell(1, 3), 1);
    }

    private static void promise16Late() {
        LendingCells x = Runs.loaded("Bc50500c50003l010150");
        x.pass(2);
        CHECK.is("16: late twice", x.cell(1, 3), 2);
        x.charge(4);
        CHECK.is("16: still late", x.cell(1, 3), 2);
        CHECK.is("16: paid in time", x.pass(1), 0);
        CHECK.is("16: late for 0 rounds", x.cell(1, 3), 0);
        x.pass(2);
        CHECK.is("16: late twice again", x.cell(1, 3), 2);
        CHECK.is("16: the third time", x.pass(1), 2);
        CHECK.is("16: bankrupt", x.cell(1, 7), 3);
        // Several missed loans make it late for 1 round more only.
        LendingCells many = Runs.loaded("Bc50500c50003l010150l010150l010150");
        many.pass(1);
        CHECK.is("16: once", many.cell(1, 3), 1);
    }

    private static void promise16Bankrupt() {
        // Cell 1 owes to cell 0, lent to cell 2, and falls in the third round.
        LendingCells x = Runs.loaded("Bc50500c50003c50000l010550l120510");
        x.pass(2);
        CHECK.is("16: two loans", x.about(1), 2);
        CHECK.is("16: falls", x.pass(1), 2);
        Runs.isAbout(CHECK, "16: written off and forgiven", x, 3, 0, 3, 47, 50, 0, 3, 0, 10, 2);
        Runs.isCell(CHECK, "16: the borrower owes nothing", x, 2, 50, 2, 0, 0, 0, 0, 0, 0);
        Runs.isCell(CHECK, "16: bankrupt", x, 1, 50, 0, 3, 3, 0, 0, 0, 3);
        CHECK.is("16: once only", x.pass(50), 0);
        CHECK.is("16: stays bankrupt", x.cell(1, 3), 3);
        // The loans of others keep their order.
        LendingCells y = Runs.loaded("Bc99990c99003c99000l020110l010150l020220l010250l020330");
        CHECK.is("16: falls", y.pass(4), 2);
        CHECK.is("16: three are left", y.about(1), 3);
        Runs.isLoan(CHECK, "16: left", y, 0, 0, 2, 1, 10, 1, 1);
        Runs.isLoan(CHECK, "16: left", y, 1, 0, 2, 2, 20, 1, 2);
        Runs.isLoan(CHECK, "16: left", y, 2, 0, 2, 3, 30, 1, 3);
        // In different rounds of one call: cell 1 in the third, cell 2 in the fifth.
        LendingCells z = Runs.loaded("Bc99990c99003c99000l010150l020250");
        CHECK.is("16: in several rounds", z.pass(5), 6);
    }

    private static void promise16GoneByNow() {
        // Both miss; cell 0 falls first, with it the loan that cell 1 missed, and cell 1 is late all the same.
        LendingCells x = Runs.loaded("Bc10013c10000l010150l100150");
        x.pass(2);
        CHECK.is("16: both are late", x.cell(0, 3) + x.cell(1, 3), 4);
        CHECK.is("16: both fall", x.pass(1), 3);
        CHECK.is("16: each loan is counted once", x.about(8), 2);
        // Cell 0 falls in the third round with the loan to cell 1, which was missed in it: late for 2 rounds, then 0.
        LendingCells y = Runs.loaded("Bc10013c10000c10050l010150l200150");
        y.pass(2);
        CHECK.is("16: late once", y.cell(1, 3), 1);
        CHECK.is("16: the lender falls", y.pass(1), 1);
        CHECK.is("16: the loan is gone", y.about(1), 0);
        CHECK.is("16: late for 1 round more", y.cell(1, 3), 2);
        CHECK.is("16: it owes nothing", y.cell(1, 4), 0);
        CHECK.is("16: nothing to miss", y.pass(1), 0);
        CHECK.is("16: late for 0 rounds", y.cell(1, 3), 0);
    }

    /** All cells and loans that there can be. */
    private static void promise16Full() {
        LendingCells x = new LendingCells();
        for (int c = 0; c < 8; c++) {
            x.addCell(99, 99 - 90 * (c / 7), 3 * (c / 7));
        }
        for (int k = 0; k < 12; k++) {
            CHECK.is("16: full, lent", x.lend(6, 7, 1, k), 1);
        }
        // Cell 7 has 21 and burns 11 a round behind a leak of 3.
        CHECK.is("16: full", x.pass(1), 0);
        CHECK.is("16: full", x.cell(7, 1), 7);
        CHECK.is("16: full", x.pass(2), 0);
        CHECK.is("16: full, late", x.cell(7, 3), 2);
        CHECK.is("16: full, falls", x.pass(1), 128);
        Runs.isAbout(CHECK, "16: full, fallen", x, 8, 0, 4, 681, 702, 0, 21, 0, 12, 128);
    }

    private static void promise16Wrong() {
        LendingCells x = Runs.loaded("Bc50500");
        for (int rounds : new int[] {0, 51, -1, Integer.MIN_VALUE, Integer.MAX_VALUE}) {
            CHECK.refuses("16: " + rounds, IAE, () -> x.pass(rounds));
        }
        CHECK.is("16: no round went by", x.about(2), 0);
        CHECK.refuses("16: none was an action", ISE, x::undo);
        x.pass(50);
        CHECK.is("16: one action", x.undo(), 0);
        CHECK.is("16: all rounds are taken back", x.about(2), 0);
    }

    private static void promise17EveryAction() {
        LendingCells x = new LendingCells();
        String[] seen = new String[9];
        Check.Call[] actions = {
            () -> x.addCell(50, 40, 1), () -> x.addCell(30, 0, 0), () -> x.lend(0, 1, 20, 50),
            () -> x.repay(0, 5), () -> x.setLeak(0, 3), () -> x.charge(50), () -> x.draw(30),
            () -> x.pass(9)};
        seen[0] = Runs.state(x);
        for (int k = 0; k < actions.length; k++) {
            actions[k].answer();
            seen[k + 1] = Runs.state(x);
            CHECK.is("17: something changed by " + k, seen[k + 1].equals(seen[k]), false);
        }
        CHECK.is("17: a bankrupt one", x.about(9), 2);
        for (int k = actions.length - 1; k >= 0; k--) {
            CHECK.is("17: left", x.undo(), k);
            CHECK.is("17: as before " + k, Runs.state(x), seen[k]);
        }
        CHECK.refuses("17: none is left", ISE, x::undo);
        CHECK.is("17: unchanged", Runs.state(x), seen[0]);
        x.addCell(10, 10, 0);
        CHECK.is("17: undo is no action", x.undo(), 0);
    }

    private static void promise17Fourteen() {
        LendingCells x = Runs.loaded("Bc99000");
        for (int k = 1; k <= 40; k++) {
            x.charge(1);
        }
        for (int k = 13; k >= 0; k--) {
            CHECK.is("17: left", x.undo(), k);
            CHECK.is("17: charge", x.about(3), 26 + k);
        }
        CHECK.refuses("17: the older ones are forgotten", ISE, x::undo);
        // Back and forth in the ring.
        for (int k = 0; k < 10; k++) {
            x.charge(2);
        }
        for (int k = 0; k < 4; k++) {
            x.undo();
        }
        for (int k = 0; k < 9; k++) {
            x.charge(3);
        }
        CHECK.is("17: charge", x.about(3), 26 + 12 + 27);
        for (int k = 13; k >= 5; k--) {
            CHECK.is("17: left", x.undo(), k);
        }
        CHECK.is("17: charge", x.about(3), 26 + 12);
        CHECK.is("17: left", x.undo(), 4);
        CHECK.is("17: charge", x.about(3), 26 + 10);
    }

    private static void promise17Not() {
        LendingCells x = new LendingCells();
        x.append('B');
        x.addCell(50, 10, 0);
        x.save(0);
        x.clearText();
        x.append('x');
        x.charge(5);
        x.holds(0);
        x.draws(1);
        x.most();
        x.bestLender(0, 1);
        x.runScript(1, 30001);
        x.simulate(1, 1);
        x.order(0);
        CHECK.is("17: only actions", x.undo(), 1);
        CHECK.is("17: the text is no state", x.errorPosition(), 0);
        CHECK.is("17: the text is no state", x.clearText(), 1);
        CHECK.is("17: the first action", x.undo(), 0);
        CHECK.is("17: the slot is no state", x.restore(0), 10);
        CHECK.refuses("17: restore is no action", ISE, x::undo);
    }
}
