/** Promises 10 to 17: the actions and undo. */
final class ActionSentences extends Sentences {
    ActionSentences(Check check, Document document) {
        super(check, document);
    }

    @Override
    void test() {
        promise(10);
        addCell();
        promise(11);
        lend();
        lendNotPossible();
        promise(12);
        repay();
        repayNotPossible();
        promise(13);
        setLeak();
        promise(14);
        charge();
        promise(15);
        draw();
        promise(16);
        pass();
        promise(17);
        undo();
    }

    private void addCell() {
        says("Adds a cell behind all others.");
        LendingCells x = Runs.loaded("Bc20050c20090l100100");
        x.addCell(30, 8, 1);
        cell("behind", x, 2, 30, 8, 1, 0, 0, 0, 0, 0);
        cell("the first one", x, 0, 20, 6, 0, 0, 1);
        about("account", x, 3, 1, 0, 22, 22);

        says("capacity: 10 to 99");
        is("10", x.addCell(10, 10, 0), 3);
        is("99", x.addCell(99, 99, 0), 4);

        says("charge: 0 to capacity");
        is("0 of 50", x.addCell(50, 0, 0), 5);
        is("50 of 50", x.addCell(50, 50, 0), 6);

        says("leak: 0 to 3");
        LendingCells leaks = new LendingCells();
        for (int leak = 0; leak <= 3; leak++) {
            leaks.addCell(10, 10, leak);
            is("leak", leaks.cell(leak, 2), leak);
        }

        says("Returns its number.");
        is("the eighth", x.addCell(10, 0, 0), 7);
        x.undo();
        is("the eighth, again", x.addCell(11, 1, 1), 7);

        says("Throws IllegalArgumentException if an argument is out of range");
        for (int capacity : outside(10, 99)) {
            refuses("capacity " + capacity, leaks, IAE, () -> leaks.addCell(capacity, 0, 0));
        }
        for (int capacity : new int[] {10, 50, 99}) {
            LendingCells none = new LendingCells();
            for (int charge : outside(0, capacity)) {
                refuses("charge " + charge, none, IAE, () -> none.addCell(capacity, charge, 0));
            }
        }
        LendingCells none = new LendingCells();
        for (int leak : outside(0, 3)) {
            refuses("leak " + leak, none, IAE, () -> none.addCell(10, 0, leak));
        }
        refuses("a charge of 100", none, IAE, () -> none.addCell(100, 100, 0));

        says("Throws IllegalStateException if there are 8 cells");
        refuses("a ninth", x, ISE, () -> x.addCell(10, 0, 0));
        refuses("a ninth, full", x, ISE, () -> x.addCell(99, 99, 3));
        refuses("a ninth, out of range", x, IAE, () -> x.addCell(10, 0, 4));
    }

    private void lend() {
        says("Makes a loan.");
        LendingCells x = Runs.loaded("Bc50500c50000c50000");
        x.lend(0, 2, 20, 50);
        loan("made", x, 0, 0, 2, 20, 50, 10, 18);
        about("account", x, 3, 1, 0, 48, 50, 0, 2, 20, 0, 0);
        x.lend(0, 2, 20, 50);
        loan("another one of the same", x, 1, 0, 2, 20, 50, 10, 18);

        says("lender: cell");
        is("the last cell", x.lend(2, 1, 1, 0), 1);

        says("borrower: another cell");
        is("back to the lender", x.lend(2, 0, 1, 0), 1);

        says("n: 1 to 99");
        LendingCells y = Runs.loaded("Bc99990c99000");
        is("1", y.lend(0, 1, 1, 0), 1);
        y.undo();
        is("99", y.lend(0, 1, 99, 0), 95);
        y.undo();

        says("rate: 0 to 50");
        y.lend(0, 1, 1, 0);
        y.lend(0, 1, 1, 50);
        is("rates", y.loan(0, 3) * 100 + y.loan(1, 3), 50);

        says("Returns how much arrives.");
        is("39, 1 on", y.lend(0, 1, 39, 1), 38);
        is("40, 1 on", y.lend(0, 1, 40, 1), 38);

        says("Throws IndexOutOfBoundsException if there is no such cell");
        for (int c : outside(0, 2)) {
            LendingCells z = Runs.loaded("Bc50500c50000c50000");
            refuses("lender " + c, z, IOOBE, () -> z.lend(c, 0, 1, 0));
            refuses("borrower " + c, z, IOOBE, () -> z.lend(0, c, 1, 0));
            refuses("both " + c, z, IOOBE, () -> z.lend(c, c, 0, 51));
        }

        says("Throws IllegalArgumentException if both are the same, or n or rate is out of range");
        for (int c = 0; c < 3; c++) {
            int both = c;
            refuses("both " + c, x, IAE, () -> x.lend(both, both, 1, 0));
        }
        LendingCells other = Runs.loaded("Bc50500c50000");
        for (int n : outside(1, 99)) {
            refuses("n " + n, other, IAE, () -> other.lend(0, 1, n, 0));
        }
        for (int rate : outside(0, 50)) {
            refuses("rate " + rate, other, IAE, () -> other.lend(0, 1, 1, rate));
        }
    }

    private void lendNotPossible() {
        says("Throws IllegalStateException if one of them is bankrupt, the lender has less than n, what arrives is too much "
                + "for the borrower, or there are 12 loans");
        LendingCells x = fallen();
        refuses("the borrower is bankrupt", x, ISE, () -> x.lend(0, 1, 1, 0));
        refuses("the lender is bankrupt", x, ISE, () -> x.lend(1, 0, 1, 0));
        refuses("1 more than 9", x, ISE, () -> x.lend(0, 2, 10, 0));
        is("all 9", x.lend(0, 2, 9, 0), 9);
        refuses("1 of 0", x, ISE, () -> x.lend(0, 2, 1, 0));
        // Room for 21: of 21, 2 cells on, 19 arrive.
        LendingCells y = Runs.loaded("Bc99990c99000c50290");
        refuses("22 of 24 for 21", y, ISE, () -> y.lend(0, 2, 24, 0));
        is("21 of 23 for 21", y.lend(0, 2, 23, 0), 21);
        is("full", y.cell(2, 1), 50);
        refuses("1 for 0", y, ISE, () -> y.lend(0, 2, 1, 0));
        LendingCells twelve = Runs.loaded(TWELVE);
        refuses("12 loans", twelve, ISE, () -> twelve.lend(0, 1, 1, 0));
        twelve.repay(11, 1);
        is("11 loans", twelve.lend(1, 0, 1, 0), 1);
        refuses("12 loans again", twelve, ISE, () -> twelve.lend(1, 0, 1, 0));
    }

    private void repay() {
        says("Repays a part of a loan, or all of it.");
        LendingCells x = Runs.loaded("Bc99900c99000c99000l022050l010500");
        x.repay(0, 1);
        loan("a part", x, 0, 0, 2, 19, 50, 10, 18);
        cell("lender", x, 0, 99, 66);
        cell("borrower", x, 2, 99, 17);
        x.repay(1, 5);
        is("all of it", x.about(1), 1);
        is("not written off", x.about(8), 0);

        says("i: loan");
        LendingCells twelve = Runs.loaded(TWELVE);
        is("the last one", twelve.repay(11, 1), 0);
        is("the first one", twelve.repay(0, 1), 0);
        is("ten are left", twelve.about(1), 10);

        says("m: 1 to 99");
        LendingCells y = Runs.loaded("Bc99990c99000l019900");
        y.charge(4);
        is("1", y.repay(0, 1), 98);
        y.undo();
        is("99", y.repay(0, 99), 0);

        says("Returns what is owed then (0 if the loan is gone).");
        is("17 of 19", x.repay(0, 17), 2);
        x.charge(2);
        is("1 of 2", x.repay(0, 1), 1);
        is("1 of 1", x.repay(0, 1), 0);
        is("gone", x.about(1), 0);

        says("Throws IndexOutOfBoundsException if there is no such loan");
        refuses("gone", x, IOOBE, () -> x.repay(0, 1));
        for (int i : outside(0, 11)) {
            LendingCells z = Runs.loaded(TWELVE);
            refuses("loan " + i, z, IOOBE, () -> z.repay(i, 1));
            refuses("loan " + i + ", and 0", z, IOOBE, () -> z.repay(i, 0));
        }

        says("Throws IllegalArgumentException if m is out of range");
        LendingCells one = Runs.loaded("Bc99990c99000l010100");
        for (int m : outside(1, 99)) {
            refuses("m " + m, one, IAE, () -> one.repay(0, m));
        }
    }

    private void repayNotPossible() {
        says("Throws IllegalStateException if less than m is owed, the borrower has less than m, or what arrives is too much "
                + "for the lender");
        LendingCells x = Runs.loaded("Bc50300c50100l010500l010100");
        refuses("6 of 5", x, ISE, () -> x.repay(0, 6));
        refuses("2 of 1", x, ISE, () -> x.repay(1, 2));
        refuses("99 of 5", x, ISE, () -> x.repay(0, 99));
        is("5 of 5", x.repay(0, 5), 0);
        LendingCells y = Runs.loaded("Bc99990c50000c50000l022000");
        refuses("the borrower has 18", y, ISE, () -> y.repay(0, 19));
        is("all 18", y.repay(0, 18), 2);
        y.undo();
        y.charge(11);
        // The lender has room for 9: of 11, 10 arrive, of 10, 9 do.
        refuses("10 for 9", y, ISE, () -> y.repay(0, 11));
        is("9 for 9", y.repay(0, 10), 10);
        is("full", y.cell(0, 1), 99);
        refuses("1 for 0", y, ISE, () -> y.repay(0, 1));
    }

    private void setLeak() {
        says("Changes the leak of a cell.");
        LendingCells x = Runs.loaded("Bc50100c50201");
        x.setLeak(0, 3);
        is("changed", x.cell(0, 2), 3);
        is("the other one", x.cell(1, 2), 1);
        x.pass(1);
        is("leaks so", x.cell(0, 1) * 100 + x.cell(1, 1), 719);

        says("c: cell");
        x.setLeak(1, 2);
        is("the last one", x.cell(1, 2), 2);

        says("leak: 0 to 3");
        for (int leak = 0; leak <= 3; leak++) {
            x.setLeak(0, leak);
            is("leak", x.cell(0, 2), leak);
        }

        says("Returns the previous one.");
        is("3", x.setLeak(0, 0), 3);
        is("0", x.setLeak(0, 1), 0);
        is("the same", x.setLeak(0, 1), 1);
        LendingCells fallen = fallen();
        is("of a bankrupt one", fallen.setLeak(1, 2), 3);
        is("of a bankrupt one", fallen.setLeak(1, 0), 2);

        says("Throws IndexOutOfBoundsException if there is no such cell");
        for (int c : outside(0, 1)) {
            refuses("cell " + c, x, IOOBE, () -> x.setLeak(c, 0));
            refuses("cell " + c + ", and 4", x, IOOBE, () -> x.setLeak(c, 4));
        }

        says("Throws IllegalArgumentException if leak is out of range");
        LendingCells y = Runs.loaded("Bc50100c50201");
        for (int leak : outside(0, 3)) {
            refuses("leak " + leak, y, IAE, () -> y.setLeak(1, leak));
        }
    }

    private void charge() {
        says("Charges the battery.");
        LendingCells x = Runs.loaded("Bc20150c30050");
        x.charge(5);
        about("charged", x, 2, 0, 0, 30, 30, 0, 0);
        is("full", x.cell(0, 1), 20);

        says("n: 1 to 99");
        is("1", x.charge(1), 1);
        is("99", x.charge(99), 99 + 80);

        says("Returns how much of it becomes heat.");
        is("all of it", x.charge(7), 14);
        is("none", Runs.loaded("Bc20150c30050").charge(5), 0);
        is("1", Runs.loaded("Bc20150c30050").charge(6), 1);
        is("no cells", new LendingCells().charge(99), 0);
        LendingCells all = ring();
        all.pass(3);
        is("all bankrupt", all.charge(99), 0);
        is("all bankrupt", all.about(4), 8);

        says("Throws IllegalArgumentException if n is out of range");
        for (int n : outside(1, 99)) {
            refuses("n " + n, x, IAE, () -> x.charge(n));
        }
    }

    private void draw() {
        says("Draws from the battery.");
        LendingCells x = Runs.loaded("Bc50400c50040c50300");
        x.draw(10);
        about("drawn", x, 3, 1, 0, 44, 74, 30, 0, 6, 0, 0);
        loan("borrowed", x, 0, 0, 1, 6, 10, 1, 6);
        is("one action", x.undo(), 0);

        says("n: 1 to 99");
        LendingCells full = Runs.loaded("Bc99990c99990");
        is("1", full.draw(1), 2);
        full.undo();
        is("99", full.draw(99), 198);

        says("Returns how much is used.");
        is("of one cell", Runs.loaded("Bc50400").draw(40), 40);
        is("of eight", Runs.loaded("B" + "c50400".repeat(8)).draw(3), 24);
        is("with a loan", x.draw(5), 15);
        is("not what was used before", x.draw(5), 15);

        says("Throws IllegalArgumentException if n is out of range");
        for (int n : outside(1, 99)) {
            refuses("n " + n, x, IAE, () -> x.draw(n));
            LendingCells none = new LendingCells();
            refuses("no cells, n " + n, none, IAE, () -> none.draw(n));
        }

        says("Throws IllegalStateException if nothing can be drawn, or there is no cell that is not bankrupt");
        refuses("empty now", full, ISE, () -> full.draw(1));
        LendingCells alone = Runs.loaded("Bc50090");
        refuses("10 of 9", alone, ISE, () -> alone.draw(10));
        is("9 of 9", alone.draw(9), 9);
        LendingCells none = new LendingCells();
        refuses("no cells", none, ISE, () -> none.draw(1));
        LendingCells all = ring();
        all.pass(3);
        refuses("all are bankrupt", all, ISE, () -> all.draw(1));
    }

    private void pass() {
        says("Lets rounds go by.");
        LendingCells x = Runs.loaded("Bc50502c50001l011010");
        x.pass(1);
        about("one", x, 2, 1, 1, 46, 50, 0, 4, 10);
        x.pass(2);
        about("two", x, 2, 1, 3, 38, 50, 0, 12, 10);

        says("rounds: 1 to 50");
        x.pass(50);
        is("50", x.about(2), 53);
        x.pass(1);
        is("1", x.about(2), 54);

        says("Returns the cells that become bankrupt in them, bit c set for the cell c.");
        LendingCells y = Runs.loaded("Bc99990c99003c50500l010150l010150c99000l030450");
        is("none yet", y.pass(2), 0);
        is("cell 1", y.pass(1), 2);
        is("cell 3 alone, later", y.pass(50), 8);
        is("none more", y.pass(50), 0);
        LendingCells both = Runs.loaded("Bc99990c99003c99000l010150l020250");
        is("two in one call", both.pass(5), 6);
        is("cell 0 too", ring().pass(3), 255);

        says("Throws IllegalArgumentException if rounds is out of range");
        for (int rounds : outside(1, 50)) {
            refuses("rounds " + rounds, x, IAE, () -> x.pass(rounds));
        }
    }

    private void undo() {
        says("Takes back the last action that is remembered.");
        LendingCells x = Runs.loaded("Bc99990c99003l010150");
        String before = Runs.state(x);
        x.pass(50);
        is("bankrupt", x.about(9), 2);
        x.undo();
        is("taken back", Runs.state(x), before);
        x.charge(3);
        x.charge(4);
        x.undo();
        is("the last one alone", x.about(4), 99 + 2 * 3);

        says("Returns how many states are still remembered.");
        for (int k = 0; k < 14; k++) {
            x.setLeak(0, k % 4);
        }
        for (int left = 13; left >= 0; left--) {
            is("left", x.undo(), left);
        }

        says("Throws IllegalStateException if none is remembered");
        refuses("none is left", x, ISE, x::undo);
        refuses("and none comes back", x, ISE, x::undo);
        LendingCells fresh = new LendingCells();
        refuses("a new object", fresh, ISE, fresh::undo);
        x.charge(1);
        x.save(0);
        x.restore(0);
        refuses("behind restore", x, ISE, x::undo);
        x.charge(1);
        x.load();
        refuses("behind load", x, ISE, x::undo);
    }
}
