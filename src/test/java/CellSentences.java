/** The terms on cells, shuttles and loans. */
final class CellSentences extends Sentences {
    CellSentences(Check check, Document document) {
        super(check, document);
    }

    @Override
    void test() {
        terms();
        atMostEightCells();
        numbersOfACell();
        atFirstNotBankrupt();
        bankruptCells();
        chargeThatWasPutIn();
        heatOfAShuttle();
        atMostTwelveLoans();
        numbersOfALoan();
        makingALoan();
        repaying();
        interest();
    }

    private void atMostEightCells() {
        says("There are at most 8 cells, numbered from 0 in a row.");
        LendingCells x = new LendingCells();
        for (int c = 0; c < 8; c++) {
            is("number", x.addCell(20 + c, c, 0), c);
            is("count", x.about(0), c + 1);
        }
        refuses("a ninth one", x, ISE, () -> x.addCell(10, 0, 0));
        for (int c = 0; c < 8; c++) {
            is("capacity of " + c, x.cell(c, 0), 20 + c);
        }
        refuses("no cell 8", x, IOOBE, () -> x.cell(8, 0));
        is("told in a text", Runs.loaded("B" + "c10000".repeat(8)).about(0), 8);
        is("a ninth one in a text", Runs.told("B" + "c10000".repeat(9)).errorPosition(), 49);
    }

    private void numbersOfACell() {
        says("A cell has a capacity from 10 to 99, a charge from 0 to its capacity, a leak from 0 to 3, "
                + "and a number of rounds for which it is late, at first 0.");
        LendingCells x = new LendingCells();
        x.addCell(10, 0, 0);
        x.addCell(10, 10, 3);
        x.addCell(99, 99, 0);
        x.addCell(99, 0, 3);
        cell("least", x, 0, 10, 0, 0, 0);
        cell("least, full", x, 1, 10, 10, 3, 0);
        cell("greatest", x, 2, 99, 99, 0, 0);
        cell("greatest, empty", x, 3, 99, 0, 3, 0);
        refuses("a capacity of 9", x, IAE, () -> x.addCell(9, 0, 0));
        refuses("a capacity of 100", x, IAE, () -> x.addCell(100, 0, 0));
        refuses("a charge of -1", x, IAE, () -> x.addCell(10, -1, 0));
        refuses("a charge of 11 of 10", x, IAE, () -> x.addCell(10, 11, 0));
        refuses("a leak of -1", x, IAE, () -> x.addCell(10, 0, -1));
        refuses("a leak of 4", x, IAE, () -> x.addCell(10, 0, 4));
        LendingCells told = Runs.loaded("Bc10103c99000");
        cell("told", told, 0, 10, 10, 3, 0);
        cell("told", told, 1, 99, 0, 0, 0);
    }

    private void atFirstNotBankrupt() {
        says("It is bankrupt or not, at first not;");
        LendingCells x = new LendingCells();
        x.addCell(10, 0, 3);
        is("added", x.about(9), 0);
        is("added", x.cell(0, 7), 0);
        LendingCells y = fallen();
        y.addCell(10, 0, 0);
        is("added behind a bankrupt one", y.about(9), 2);
        y.load();
        is("told again", y.about(9), 0);
        is("told again", y.cell(1, 3), 0);
    }

    private void bankruptCells() {
        says("a bankrupt cell has no charge, neither gives nor takes any, and has no loans.");
        // Cell 1 owes to cell 0 and has lent to cell 2; it becomes bankrupt in the third round.
        LendingCells x = Runs.loaded("Bc99200c99003l010250c99000l120110");
        is("falls", x.pass(3), 2);
        cell("no charge, no loans", x, 1, 99, 0, 3, 3, 0, 0, 0, 3);
        about("no loans", x, 3, 0, 3, 18, 20, 0, 2, 0, 3, 2);
        x.charge(10);
        is("takes none", x.cell(1, 1), 0);
        is("none is put in for it", x.about(4), 40);
        is("gives none of what is drawn", x.draw(1), 2);
        is("leaks none", x.pass(50) + x.cell(1, 1), 0);
        refuses("is no lender", x, ISE, () -> x.lend(1, 0, 1, 0));
        refuses("is no borrower", x, ISE, () -> x.lend(0, 1, 1, 0));
        is("is no best lender", x.bestLender(0, 1), 2);
        is("lacks nothing", x.bestLender(1, 1), NONE);
        // Only the bankrupt one could be asked.
        LendingCells alone = Runs.loaded("Bc99010c99003l010150");
        alone.pass(3);
        refuses("lends nothing to one that lacks", alone, ISE, () -> alone.draw(1));
        is("is no best lender", alone.bestLender(0, 1), NONE);
    }

    private void chargeThatWasPutIn() {
        says("All charge with which cells are added was put in.");
        LendingCells x = new LendingCells();
        x.addCell(50, 40, 1);
        is("first", x.about(4), 40);
        x.addCell(10, 0, 0);
        is("none", x.about(4), 40);
        x.addCell(99, 99, 0);
        is("full", x.about(4), 139);
        is("told, with a loan", Runs.loaded("Bc50401c10000l010500c99990").about(4), 139);
    }

    private void shuttles(int from, int to, int n) {
        int heat = 0;
        while (20 * (heat + 1) <= n * Math.abs(from - to)) {
            heat++;
        }
        LendingCells x = Runs.loaded("B" + "c99000".repeat(from) + "c99990" + "c99000".repeat(7 - from));
        String what = n + " from " + from + " to " + to;
        is(what, x.lend(from, to, n, 0), n - heat);
        is(what + ", heat", x.about(6), heat);
        is(what + ", giver", x.cell(from, 1), 99 - n);
        is(what + ", taker", x.cell(to, 1), n - heat);
        // All that arrived goes back by the same way.
        int back = n - heat;
        x.repay(0, back);
        is(what + ", and back", x.cell(from, 1), 99 - n + back - back * Math.abs(from - to) / 20);
    }

    private void heatOfAShuttle() {
        says("When n units go from a cell to another one, (n * (the difference of their numbers) / 20), "
                + "rounded down, of them become heat; the others arrive.");
        for (int n = 1; n <= 99; n++) {
            for (int far = 1; far <= 7; far++) {
                shuttles(0, far, n);
                shuttles(7, 7 - far, n);
            }
        }
        LendingCells x = Runs.loaded("Bc99990c99000c99000");
        is("19 units, 1 on", x.lend(0, 1, 19, 0), 19);
        is("20 units, 1 on", x.lend(0, 1, 20, 0), 19);
        is("9 units, 2 on", x.lend(0, 2, 9, 0), 9);
        is("10 units, 2 on", x.lend(0, 2, 10, 0), 9);
    }

    private void atMostTwelveLoans() {
        says("There are at most 12 loans, numbered from 0 in the order in which they were made.");
        LendingCells x = Runs.loaded("Bc99990c99000c99000");
        for (int i = 0; i < 12; i++) {
            x.lend(0, 1 + i % 2, i + 1, 0);
            is("count", x.about(1), i + 1);
        }
        refuses("a thirteenth one", x, ISE, () -> x.lend(0, 1, 1, 0));
        for (int i = 0; i < 12; i++) {
            loan("in their order", x, i, 0, 1 + i % 2, i + 1);
        }
        refuses("no loan 12", x, IOOBE, () -> x.loan(12, 0));
        is("twelve told in a text", Runs.loaded(TWELVE).about(1), 12);
        is("a thirteenth one in a text", Runs.told(TWELVE + "l010100").errorPosition(), 97);
        LendingCells y = Runs.loaded("Bc99990c99000" + "l010100".repeat(11) + "c99000");
        y.draw(1);
        is("a twelfth one of a drawing", y.about(1), 12);
        y.addCell(99, 0, 0);
        refuses("a thirteenth one of a drawing", y, ISE, () -> y.draw(1));
    }

    private void numbersOfALoan() {
        says("A loan has a lender, a borrower, what is owed (1 or more), and a rate from 0 to 50.");
        LendingCells x = Runs.loaded("Bc99990c99000");
        x.lend(0, 1, 1, 0);
        x.lend(0, 1, 2, 50);
        loan("least", x, 0, 0, 1, 1, 0);
        loan("greatest rate", x, 1, 0, 1, 2, 50);
        refuses("0 owed", x, IAE, () -> x.lend(0, 1, 0, 0));
        refuses("a rate of -1", x, IAE, () -> x.lend(0, 1, 1, -1));
        refuses("a rate of 51", x, IAE, () -> x.lend(0, 1, 1, 51));
        x.repay(1, 1);
        is("1 is left", x.loan(1, 2), 1);
        x.repay(1, 1);
        is("not with 0", x.about(1), 1);
    }

    private void makingALoan() {
        says("When a loan of n units is made, they go from the lender to the borrower, and n is owed.");
        LendingCells x = Runs.loaded("Bc99050c99000c99900");
        is("arrives", x.lend(2, 0, 90, 7), 81);
        cell("all that the lender has", x, 2, 99, 0);
        cell("borrower", x, 0, 99, 86);
        is("all is owed, the heat too", x.loan(0, 2), 90);
        about("account", x, 3, 1, 0, 86, 95, 0, 9, 90);
    }

    private void repaying() {
        says("When m units are repaid, they go from the borrower to the lender, and m less is owed; a loan of which "
                + "nothing is owed is gone (those behind it get numbers that are smaller by 1).");
        LendingCells x = Runs.loaded("Bc99990c99000c99000l022001l010102l020203l010304");
        is("a part", x.repay(0, 10), 10);
        // 10 go 2 cells far: 9 arrive, 1 becomes heat, 10 less is owed.
        loan("10 less is owed", x, 0, 0, 2, 10, 1);
        about("account", x, 3, 4, 0, 96, 99, 0, 3, 16);
        is("lender", x.cell(0, 1), 82);
        is("borrower", x.cell(2, 1), 10);
        is("all but 1", x.repay(0, 9), 1);
        is("still there", x.about(1), 4);
        x.charge(2);
        is("the last unit", x.repay(0, 1), 0);
        is("gone", x.about(1), 3);
        loan("those behind it", x, 0, 0, 1, 1, 2);
        loan("those behind it", x, 1, 0, 2, 2, 3);
        loan("those behind it", x, 2, 0, 1, 3, 4);
        x.repay(1, 2);
        loan("the one ahead keeps its number", x, 0, 0, 1, 1, 2);
        loan("the one behind", x, 1, 0, 1, 3, 4);
        x.repay(1, 3);
        loan("the last one of the row is gone", x, 0, 0, 1, 1, 2);
        is("one is left", x.about(1), 1);
    }

    private void interest() {
        says("The interest of a loan is (owed * rate / 100), rounded up.");
        for (int owed = 1; owed <= 99; owed++) {
            LendingCells x = Runs.loaded("Bc99990c99000");
            for (int rate = 0; rate <= 50; rate++) {
                x.lend(0, 1, owed, rate);
                int due = 0;
                while (100 * due < owed * rate) {
                    due++;
                }
                is("of " + owed + " at " + rate, x.loan(0, 4), due);
                x.undo();
            }
        }
        LendingCells x = Runs.loaded("Bc99990c99000l011110");
        is("11 at 10", x.loan(0, 4), 2);
        x.repay(0, 1);
        is("10 at 10", x.loan(0, 4), 1);
    }
}
