/** Promises 10 to 15: cells, loans, charging and drawing. */
public final class ActionsTest {
    private static final Class<IllegalArgumentException> IAE = IllegalArgumentException.class;
    private static final Class<IllegalStateException> ISE = IllegalStateException.class;
    private static final Class<IndexOutOfBoundsException> IOOBE = IndexOutOfBoundsException.class;
    private static final Check CHECK = new Check();

    public static void main(String[] args) {
        promise10AddCell();
        promise11Arriving();
        promise11NotPossible();
        promise11Wrong();
        promise12Repay();
        promise12NotPossible();
        promise12Wrong();
        promise13SetLeak();
        promise14Charge();
        promise15Borrowing();
        promise15NotPossible();
        promise15TwelveLoans();
        promise15Bankrupt();
        CHECK.end();
    }

    /** Refused, and nothing is different: neither the state nor the number of remembered states. */
    private static void refuses(String what, LendingCells x, Class<? extends RuntimeException> due, Check.Call call) {
        String before = Runs.state(x);
        CHECK.refuses(what, due, call);
        CHECK.is(what + ": nothing changes", Runs.state(x), before);
    }

    private static void promise10AddCell() {
        LendingCells x = new LendingCells();
        refuses("10: capacity 9", x, IAE, () -> x.addCell(9, 0, 0));
        refuses("10: capacity 100", x, IAE, () -> x.addCell(100, 0, 0));
        refuses("10: charge -1", x, IAE, () -> x.addCell(10, -1, 0));
        refuses("10: charge 11 of 10", x, IAE, () -> x.addCell(10, 11, 0));
        refuses("10: leak -1", x, IAE, () -> x.addCell(10, 0, -1));
        refuses("10: leak 4", x, IAE, () -> x.addCell(10, 0, 4));
        refuses("10: all wrong", x, IAE, () -> x.addCell(Integer.MIN_VALUE, Integer.MAX_VALUE, Integer.MIN_VALUE));
        CHECK.refuses("10: none was an action", ISE, x::undo);
        CHECK.is("10: first", x.addCell(10, 10, 3), 0);
        CHECK.is("10: second", x.addCell(99, 0, 0), 1);
        CHECK.is("10: third", x.addCell(99, 99, 1), 2);
        Runs.isAbout(CHECK, "10: put in", x, 3, 0, 0, 109, 109, 0, 0, 0, 0, 0);
        Runs.isCell(CHECK, "10: first", x, 0, 10, 10, 3, 0, 0, 0, 0, 0);
        Runs.isCell(CHECK, "10: third", x, 2, 99, 99, 1, 0, 0, 0, 0, 0);
        for (int c = 3; c < 8; c++) {
            CHECK.is("10: number", x.addCell(20, c, 0), c);
        }
        refuses("10: the ninth", x, ISE, () -> x.addCell(10, 0, 0));
        refuses("10: out of range comes first", x, IAE, () -> x.addCell(9, 0, 0));
        CHECK.is("10: an action", x.undo(), 7);
        CHECK.is("10: taken back", x.about(0), 7);
        CHECK.is("10: again", x.addCell(30, 30, 2), 7);
        Runs.isCell(CHECK, "10: again", x, 7, 30, 30, 2, 0, 0, 0, 0, 0);
    }

    private static void arrives(int from, int to, int n, int due) {
        LendingCells x = new LendingCells();
        for (int c = 0; c < 8; c++) {
            x.addCell(99, c == from ? 99 : 0, 0);
        }
        String what = "11: " + n + " from " + from + " to " + to;
        CHECK.is(what, x.lend(from, to, n, 0), due);
        CHECK.is(what + ": lender", x.cell(from, 1), 99 - n);
        CHECK.is(what + ": borrower", x.cell(to, 1), due);
        CHECK.is(what + ": heat", x.about(6), n - due);
        CHECK.is(what + ": owed", x.loan(0, 2), n);
        CHECK.is(what + ": arrived", x.loan(0, 5), due);
    }

    private static void promise11Arriving() {
        arrives(0, 7, 99, 65);
        arrives(7, 0, 99, 65);
        arrives(0, 1, 19, 19);
        arrives(0, 1, 20, 19);
        arrives(3, 2, 20, 19);
        arrives(0, 2, 19, 18);
        arrives(0, 2, 9, 9);
        arrives(0, 2, 10, 9);
        arrives(0, 7, 2, 2);
        arrives(0, 7, 3, 2);
        arrives(6, 1, 4, 3);
        arrives(0, 1, 1, 1);
        LendingCells x = Runs.loaded("Bc50500c50000c50000");
        CHECK.is("11: first", x.lend(0, 2, 20, 50), 18);
        CHECK.is("11: second", x.lend(2, 1, 18, 0), 18);
        Runs.isLoan(CHECK, "11: first", x, 0, 0, 2, 20, 50, 10, 18);
        Runs.isLoan(CHECK, "11: second", x, 1, 2, 1, 18, 0, 0, 18);
        CHECK.is("11: an action", x.undo(), 1);
        CHECK.is("11: taken back", x.cell(2, 1), 18);
    }

    private static void promise11NotPossible() {
        LendingCells x = Runs.loaded("Bc50100c50450c99000");
        refuses("11: the lender has less", x, ISE, () -> x.lend(0, 1, 11, 0));
        refuses("11: too much arrives", x, ISE, () -> x.lend(0, 1, 6, 0));
        CHECK.is("11: all that the lender has, less than full", x.lend(0, 1, 5, 0), 5);
        CHECK.is("11: full", x.cell(1, 1), 50);
        refuses("11: the borrower is full", x, ISE, () -> x.lend(0, 1, 1, 0));
        CHECK.is("11: the rest of the lender", x.lend(0, 2, 5, 0), 5);
        CHECK.is("11: nothing left", x.cell(0, 1), 0);
        refuses("11: nothing to lend", x, ISE, () -> x.lend(0, 2, 1, 0));
    }

    private static void promise11Wrong() {
        LendingCells x = Runs.loaded("Bc50100c50000");
        refuses("11: lender -1", x, IOOBE, () -> x.lend(-1, 0, 1, 0));
        refuses("11: lender 2", x, IOOBE, () -> x.lend(2, 0, 1, 0));
        refuses("11: borrower -1", x, IOOBE, () -> x.lend(0, -1, 1, 0));
        refuses("11: borrower 2", x, IOOBE, () -> x.lend(0, 2, 1, 0));
        refuses("11: no cell comes before the same one", x, IOOBE, () -> x.lend(5, 5, 1, 0));
        refuses("11: no cell comes before the number", x, IOOBE, () -> x.lend(0, 2, 0, 51));
        refuses("11: the same", x, IAE, () -> x.lend(0, 0, 1, 0));
        refuses("11: n 0", x, IAE, () -> x.lend(0, 1, 0, 0));
        refuses("11: n 100", x, IAE, () -> x.lend(0, 1, 100, 0));
        refuses("11: rate -1", x, IAE, () -> x.lend(0, 1, 1, -1));
        refuses("11: rate 51", x, IAE, () -> x.lend(0, 1, 1, 51));
        refuses("11: the rate comes before the charge", x, IAE, () -> x.lend(1, 0, 99, 51));
        CHECK.refuses("11: none was an action", ISE, x::undo);
        LendingCells many = Runs.loaded("Bc99990c99000" + "l010100".repeat(12));
        refuses("11: twelve", many, ISE, () -> many.lend(0, 1, 1, 0));
        refuses("11: wrong comes before twelve", many, IAE, () -> many.lend(0, 1, 0, 0));
        many.repay(3, 1);
        CHECK.is("11: room again", many.lend(0, 1, 1, 50), 1);
        Runs.isLoan(CHECK, "11: behind all", many, 11, 0, 1, 1, 50, 1, 1);
        LendingCells fallen = Runs.loaded("Bc99100c99003l010150c50500");
        fallen.pass(3);
        CHECK.is("11: bankrupt", fallen.about(9), 2);
        refuses("11: to a bankrupt one", fallen, ISE, () -> fallen.lend(0, 1, 1, 0));
        refuses("11: from a bankrupt one", fallen, ISE, () -> fallen.lend(1, 0, 1, 0));
        refuses("11: wrong comes before bankrupt", fallen, IAE, () -> fallen.lend(1, 1, 1, 0));
    }

    private static void promise12Repay() {
        LendingCells x = Runs.loaded("Bc99990c10000c50000l022010l010500l020101");
        CHECK.is("12: a part", x.repay(0, 10), 10);
        // 10 units go 2 cells far: 1 becomes heat, and 10 less is owed.
        Runs.isAbout(CHECK, "12: a part", x, 3, 3, 0, 96, 99, 0, 3, 16, 0, 0);
        CHECK.is("12: lender", x.cell(0, 1), 82);
        CHECK.is("12: borrower", x.cell(2, 1), 9);
        CHECK.is("12: all of the second", x.repay(1, 5), 0);
        CHECK.is("12: one less", x.about(1), 2);
        Runs.isLoan(CHECK, "12: ahead", x, 0, 0, 2, 10, 10, 1, 18);
        Runs.isLoan(CHECK, "12: behind", x, 1, 0, 2, 1, 1, 1, 1);
        CHECK.is("12: an action", x.undo(), 1);
        Runs.isLoan(CHECK, "12: back", x, 1, 0, 1, 5, 0, 0, 5);
        LendingCells all = Runs.loaded("Bc99990c99000l011000");
        CHECK.is("12: at once", all.repay(0, 10), 0);
        CHECK.is("12: none is left", all.about(1), 0);
        CHECK.is("12: nothing is owed", all.about(7), 0);
        CHECK.is("12: not written off", all.about(8), 0);
    }

    private static void promise12NotPossible() {
        LendingCells x = Runs.loaded("Bc99990c50000c50000l022000");
        refuses("12: the borrower has 18", x, ISE, () -> x.repay(0, 19));
        CHECK.is("12: all that it has", x.repay(0, 18), 2);
        x.undo();
        x.charge(11);
        // The lender has room for 9: of 11, 10 arrive; of 10, 9 do.
        refuses("12: too much for the lender", x, ISE, () -> x.repay(0, 11));
        CHECK.is("12: just full", x.repay(0, 10), 10);
        CHECK.is("12: just full", x.cell(0, 1), 99);
        refuses("12: the lender is full", x, ISE, () -> x.repay(0, 1));
        LendingCells y = Runs.loaded("Bc50300c50100l010500l010100");
        refuses("12: less is owed", y, ISE, () -> y.repay(1, 2));
        CHECK.is("12: just that", y.repay(1, 1), 0);
    }

    private static void promise12Wrong() {
        LendingCells x = Runs.loaded("Bc99990c50000l012000");
        refuses("12: loan -1", x, IOOBE, () -> x.repay(-1, 1));
        refuses("12: loan 1", x, IOOBE, () -> x.repay(1, 1));
        refuses("12: the loan comes first", x, IOOBE, () -> x.repay(1, 0));
        refuses("12: 0", x, IAE, () -> x.repay(0, 0));
        refuses("12: 100", x, IAE, () -> x.repay(0, 100));
        refuses("12: -5", x, IAE, () -> x.repay(0, -5));
        refuses("12: 99", x, ISE, () -> x.repay(0, 99));
        CHECK.refuses("12: none was an action", ISE, x::undo);
    }

    private static void promise13SetLeak() {
        LendingCells x = Runs.loaded("Bc50100c50201");
        CHECK.is("13: previous", x.setLeak(0, 3), 0);
        CHECK.is("13: leak", x.cell(0, 2), 3);
        CHECK.is("13: the other", x.cell(1, 2), 1);
        x.pass(1);
        CHECK.is("13: leaks", x.cell(0, 1), 7);
        CHECK.is("13: the same again", x.setLeak(0, 3), 3);
        CHECK.is("13: an action too", x.undo(), 2);
        CHECK.is("13: none", x.setLeak(0, 0), 3);
        CHECK.is("13: taken back", x.undo(), 2);
        CHECK.is("13: taken back", x.cell(0, 2), 3);
        refuses("13: cell -1", x, IOOBE, () -> x.setLeak(-1, 0));
        refuses("13: cell 2", x, IOOBE, () -> x.setLeak(2, 0));
        refuses("13: the cell comes first", x, IOOBE, () -> x.setLeak(2, 4));
        refuses("13: leak -1", x, IAE, () -> x.setLeak(0, -1));
        refuses("13: leak 4", x, IAE, () -> x.setLeak(0, 4));
        CHECK.is("13: no more actions", x.undo(), 1);
        LendingCells fallen = Runs.loaded("Bc99100c99003l010150");
        fallen.pass(3);
        CHECK.is("13: of a bankrupt one", fallen.setLeak(1, 1), 3);
        CHECK.is("13: of a bankrupt one", fallen.cell(1, 2), 1);
    }

    private static void promise14Charge() {
        LendingCells x = Runs.loaded("Bc20150c20050");
        CHECK.is("14: heat", x.charge(10), 5);
        Runs.isAbout(CHECK, "14: account", x, 2, 0, 0, 35, 40, 0, 5, 0, 0, 0);
        CHECK.is("14: full", x.cell(0, 1), 20);
        CHECK.is("14: not full", x.cell(1, 1), 15);
        CHECK.is("14: all too much", x.charge(99), 193);
        CHECK.is("14: just full", x.about(3), 40);
        CHECK.is("14: actions", x.undo(), 1);
        CHECK.is("14: fits", x.charge(5) + x.cell(1, 1), 25);
        refuses("14: 0", x, IAE, () -> x.charge(0));
        refuses("14: 100", x, IAE, () -> x.charge(100));
        refuses("14: -1", x, IAE, () -> x.charge(-1));
        LendingCells none = new LendingCells();
        CHECK.is("14: no cells", none.charge(99), 0);
        CHECK.is("14: an action though nothing changes", none.undo(), 0);
        LendingCells fallen = Runs.loaded("Bc99100c99003l010150");
        fallen.pass(3);
        CHECK.is("14: a bankrupt one takes none", fallen.charge(10), 0);
        CHECK.is("14: none is put into it", fallen.about(4), 20);
        CHECK.is("14: the other takes", fallen.cell(0, 1), 19);
        CHECK.is("14: it has none", fallen.cell(1, 1), 0);
    }

    private static void promise15Borrowing() {
        LendingCells plain = Runs.loaded("Bc50400c50250");
        CHECK.is("15: plain", plain.draw(25), 50);
        Runs.isAbout(CHECK, "15: plain", plain, 2, 0, 0, 15, 65, 50, 0, 0, 0, 0);

        LendingCells one = Runs.loaded("Bc50400c50040c50300");
        CHECK.is("15: one borrows", one.draw(10), 30);
        Runs.isLoan(CHECK, "15: one borrows", one, 0, 0, 1, 6, 10, 1, 6);
        Runs.isAbout(CHECK, "15: one borrows", one, 3, 1, 0, 44, 74, 30, 0, 6, 0, 0);
        CHECK.is("15: lender", one.cell(0, 1), 24);
        CHECK.is("15: borrower", one.cell(1, 1), 0);
        CHECK.is("15: an action", one.undo(), 0);
        CHECK.is("15: taken back", one.about(1), 0);

        LendingCells tie = Runs.loaded("Bc50050c50400c50400");
        CHECK.is("15: the lowest of several", tie.draw(10), 30);
        Runs.isLoan(CHECK, "15: the lowest of several", tie, 0, 1, 0, 5, 10, 1, 5);

        // Each borrows 11, of which 10 arrive; the second lender is the greatest when the first has lent.
        LendingCells two = Runs.loaded("Bc50000c50000c50400c50380");
        CHECK.is("15: two borrow", two.draw(10), 40);
        Runs.isLoan(CHECK, "15: two borrow", two, 0, 2, 0, 11, 10, 2, 10);
        Runs.isLoan(CHECK, "15: two borrow", two, 1, 3, 1, 11, 10, 2, 10);
        Runs.isAbout(CHECK, "15: two borrow", two, 4, 2, 0, 36, 78, 40, 2, 22, 0, 0);

        // A cell with just n does not borrow.
        LendingCells just = Runs.loaded("Bc50100c50400");
        CHECK.is("15: just n", just.draw(10), 20);
        CHECK.is("15: just n", just.about(1), 0);
    }

    private static void promise15NotPossible() {
        LendingCells x = Runs.loaded("Bc50000c99990c10100");
        refuses("15: a capacity of less", x, ISE, () -> x.draw(11));
        CHECK.is("15: just the capacity", x.draw(10), 30);
        LendingCells y = Runs.loaded("Bc50000c50200");
        refuses("15: the lender keeps 9 of 11", y, ISE, () -> y.draw(11));
        CHECK.is("15: the lender keeps 10 of 10", y.draw(10), 20);
        LendingCells z = Runs.loaded("Bc50000c50190");
        refuses("15: the lender keeps 9 of 10", z, ISE, () -> z.draw(10));
        // The greatest one is the lender, also where it lies so far that only another one could lend.
        String among = "c99200c99200c99200c99200c99200";
        LendingCells far = Runs.loaded("Bc99000c99320" + among + "c99330");
        refuses("15: the greatest lies too far", far, ISE, () -> far.draw(15));
        CHECK.is("15: the lowest of the greatest", Runs.loaded("Bc99000c99330" + among + "c99330").draw(15), 120);
        LendingCells alone = Runs.loaded("Bc50090");
        refuses("15: alone", alone, ISE, () -> alone.draw(10));
        CHECK.is("15: alone", alone.draw(9), 9);
        LendingCells none = new LendingCells();
        refuses("15: no cells", none, ISE, () -> none.draw(1));
        refuses("15: 0 comes first", none, IAE, () -> none.draw(0));
        refuses("15: 100 comes first", none, IAE, () -> none.draw(100));
        refuses("15: -1 comes first", none, IAE, () -> none.draw(-1));
        CHECK.refuses("15: none was an action", ISE, none::undo);
        // The first can borrow, the second cannot: nothing is drawn, and no loan stays.
        LendingCells half = Runs.loaded("Bc99000c99080c99000");
        refuses("15: not at all", half, ISE, () -> half.draw(4));
        CHECK.refuses("15: not at all was no action", ISE, half::undo);
    }

    private static void promise15TwelveLoans() {
        LendingCells x = Runs.loaded("Bc99990c99000" + "l010100".repeat(11) + "c50000");
        x.draw(9);
        CHECK.is("15: the twelfth", x.about(1), 12);
        LendingCells y = Runs.loaded("Bc99990c99000" + "l010100".repeat(11) + "c50000c50000");
        refuses("15: the thirteenth", y, ISE, () -> y.draw(9));
        LendingCells z = Runs.loaded("Bc99990c99000" + "l010100".repeat(12) + "c50000");
        refuses("15: twelve already", z, ISE, () -> z.draw(9));
        CHECK.is("15: twelve already, none lacks", Runs.loaded("Bc99990c99000" + "l010100".repeat(12)).draw(9), 18);
    }

    private static void promise15Bankrupt() {
        LendingCells x = Runs.loaded("Bc99200c99003l010150c50100");
        x.pass(3);
        CHECK.is("15: a bankrupt one need not give", x.draw(10), 20);
        LendingCells both = Runs.loaded("Bc10013c10000l010150l100150");
        CHECK.is("15: both bankrupt", both.pass(3), 3);
        refuses("15: all are bankrupt", both, ISE, () -> both.draw(1));
        CHECK.is("15: both bankrupt, charge", both.charge(9), 0);
    }
}
