/** Promises 6 to 9: what there is. */
public final class StateTest {
    private static final Class<IllegalArgumentException> IAE = IllegalArgumentException.class;
    private static final Class<IndexOutOfBoundsException> IOOBE = IndexOutOfBoundsException.class;
    private static final Check CHECK = new Check();

    public static void main(String[] args) {
        promises6To8InOneRun();
        promise6BankruptBits();
        promise6Wrong();
        promise7Sums();
        promise7Wrong();
        promise8Interest();
        promise8Wrong();
        promise9Order();
        promise9Bankrupt();
        CHECK.end();
    }

    private static LendingCells three() {
        LendingCells x = new LendingCells();
        x.addCell(50, 40, 1);
        x.addCell(20, 10, 0);
        x.addCell(30, 0, 0);
        x.lend(0, 2, 20, 50);
        return x;
    }

    private static void promises6To8InOneRun() {
        LendingCells x = three();
        Runs.isAbout(CHECK, "6: lent", x, 3, 1, 0, 48, 50, 0, 2, 20, 0, 0);
        Runs.isCell(CHECK, "7: lent", x, 0, 50, 20, 1, 0, 0, 20, 0, 0);
        Runs.isCell(CHECK, "7: lent", x, 1, 20, 10, 0, 0, 0, 0, 0, 0);
        Runs.isCell(CHECK, "7: lent", x, 2, 30, 18, 0, 0, 20, 0, 10, 1);
        Runs.isLoan(CHECK, "8: lent", x, 0, 0, 2, 20, 50, 10, 18);
        x.draw(5);
        x.pass(1);
        Runs.isAbout(CHECK, "6: drawn and passed", x, 3, 1, 1, 22, 50, 15, 13, 20, 0, 0);
        Runs.isCell(CHECK, "7: drawn and passed", x, 2, 30, 3, 0, 0, 20, 0, 10, 1);
        x.pass(1);
        Runs.isAbout(CHECK, "6: missed", x, 3, 1, 2, 18, 50, 15, 17, 20, 0, 0);
        Runs.isCell(CHECK, "7: missed", x, 2, 30, 0, 0, 1, 20, 0, 10, 2);
        x.pass(1);
        Runs.isCell(CHECK, "7: missed again", x, 2, 30, 0, 0, 2, 20, 0, 10, 2);
        x.pass(1);
        Runs.isAbout(CHECK, "6: bankrupt", x, 3, 0, 4, 16, 50, 15, 19, 0, 20, 4);
        Runs.isCell(CHECK, "7: bankrupt", x, 2, 30, 0, 0, 3, 0, 0, 0, 3);
        Runs.isCell(CHECK, "7: its lender", x, 0, 50, 11, 1, 0, 0, 0, 0, 0);
    }

    private static void promise6BankruptBits() {
        LendingCells x = new LendingCells();
        for (int c = 0; c < 8; c++) {
            x.addCell(10, 1, 3);
        }
        x.setLeak(3, 0);
        x.lend(3, 0, 1, 50);
        x.lend(1, 2, 1, 50);
        x.lend(6, 7, 1, 50);
        CHECK.is("6: none yet", x.about(9), 0);
        x.pass(3);
        CHECK.is("6: cells 0, 2 and 7", x.about(9), 1 + 4 + 128);
        CHECK.is("6: 1 each", x.about(8), 3);
    }

    private static void promise6Wrong() {
        LendingCells x = three();
        for (int what : new int[] {-1, 10, Integer.MIN_VALUE, Integer.MAX_VALUE}) {
            CHECK.refuses("6: " + what, IAE, () -> x.about(what));
        }
    }

    private static void promise7Sums() {
        LendingCells x = new LendingCells();
        x.addCell(50, 50, 0);
        x.addCell(50, 10, 2);
        x.addCell(50, 20, 3);
        x.lend(0, 1, 1, 1);
        x.lend(2, 1, 1, 1);
        x.lend(0, 1, 7, 10);
        x.lend(1, 2, 4, 0);
        // The interest is rounded up for each loan: 1, 1 and 1.
        Runs.isCell(CHECK, "7: sums", x, 1, 50, 15, 2, 0, 9, 4, 3, 1);
        Runs.isCell(CHECK, "7: sums", x, 0, 50, 42, 0, 0, 0, 8, 0, 0);
        Runs.isCell(CHECK, "7: sums", x, 2, 50, 23, 3, 0, 4, 1, 0, 1);
        CHECK.is("7: owes 1", Runs.loaded("Bc20100c10000l010100").cell(1, 7), 1);
        // A late cell that owes nothing any more is still late until the round is over.
        LendingCells y = Runs.loaded("Bc20100c10003l010150");
        y.pass(1);
        CHECK.is("7: late", y.cell(1, 3), 1);
        y.charge(1);
        y.repay(0, 1);
        Runs.isCell(CHECK, "7: late without loans", y, 1, 10, 0, 3, 1, 0, 0, 0, 2);
        y.pass(1);
        Runs.isCell(CHECK, "7: late no more", y, 1, 10, 0, 3, 0, 0, 0, 0, 0);
    }

    private static void promise7Wrong() {
        LendingCells x = three();
        for (int c : new int[] {-1, 3, Integer.MIN_VALUE, Integer.MAX_VALUE}) {
            CHECK.refuses("7: cell " + c, IOOBE, () -> x.cell(c, 0));
            CHECK.refuses("7: the cell comes first " + c, IOOBE, () -> x.cell(c, 8));
        }
        for (int what : new int[] {-1, 8, Integer.MIN_VALUE, Integer.MAX_VALUE}) {
            CHECK.refuses("7: what " + what, IAE, () -> x.cell(0, what));
        }
    }

    private static void interest(int n, int rate, int due) {
        LendingCells x = Runs.loaded("Bc99990c99000");
        x.lend(0, 1, n, rate);
        CHECK.is("8: interest of " + n + " at " + rate, x.loan(0, 4), due);
    }

    private static void promise8Interest() {
        interest(1, 0, 0);
        interest(99, 0, 0);
        interest(1, 1, 1);
        interest(99, 1, 1);
        interest(10, 10, 1);
        interest(11, 10, 2);
        interest(50, 2, 1);
        interest(51, 2, 2);
        interest(99, 50, 50);
        interest(98, 50, 49);
        LendingCells x = Runs.loaded("Bc99990c99000c99000l012010l120520");
        Runs.isLoan(CHECK, "8: first", x, 0, 0, 1, 20, 10, 2, 19);
        Runs.isLoan(CHECK, "8: second", x, 1, 1, 2, 5, 20, 1, 5);
        x.repay(0, 9);
        Runs.isLoan(CHECK, "8: what arrived stays", x, 0, 0, 1, 11, 10, 2, 19);
    }

    private static void promise8Wrong() {
        LendingCells x = three();
        for (int i : new int[] {-1, 1, Integer.MIN_VALUE, Integer.MAX_VALUE}) {
            CHECK.refuses("8: loan " + i, IOOBE, () -> x.loan(i, 0));
            CHECK.refuses("8: the loan comes first " + i, IOOBE, () -> x.loan(i, 6));
        }
        for (int what : new int[] {-1, 6, Integer.MIN_VALUE, Integer.MAX_VALUE}) {
            CHECK.refuses("8: what " + what, IAE, () -> x.loan(0, what));
        }
        x.repay(0, 18);
        x.charge(2);
        x.repay(0, 2);
        CHECK.refuses("8: gone", IOOBE, () -> x.loan(0, 0));
    }

    private static void promise9Order() {
        LendingCells x = Runs.loaded("Bc20050c20090c20090c20000c99070");
        int[] due = {1, 2, 4, 0, 3, LendingCells.NONE, LendingCells.NONE};
        for (int place = 0; place < due.length; place++) {
            CHECK.is("9: place " + place, x.order(place), due[place]);
        }
        CHECK.is("9: far", x.order(Integer.MAX_VALUE), LendingCells.NONE);
        CHECK.refuses("9: -1", IAE, () -> x.order(-1));
        CHECK.refuses("9: least", IAE, () -> x.order(Integer.MIN_VALUE));
        LendingCells none = new LendingCells();
        CHECK.is("9: no cells", none.order(0), LendingCells.NONE);
        CHECK.refuses("9: -1 without cells", IAE, () -> none.order(-1));
    }

    private static void promise9Bankrupt() {
        LendingCells x = Runs.loaded("Bc20010c10003c20000l010150");
        x.pass(3);
        CHECK.is("9: bankrupt", x.about(9), 2);
        CHECK.is("9: first", x.order(0), 0);
        CHECK.is("9: the bankrupt one is left out", x.order(1), 2);
        CHECK.is("9: no third", x.order(2), LendingCells.NONE);
    }
}
