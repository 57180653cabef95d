/** The terms on charging and drawing. */
final class DrawingSentences extends Sentences {
    DrawingSentences(Check check, Document document) {
        super(check, document);
    }

    @Override
    void test() {
        terms();
        charging();
        drawing();
        borrowing();
        possibleLoans();
        notAtAll();
        account();
    }

    private void charging() {
        says("When n is charged, n units are put in for each cell that is not bankrupt; what is too much for a cell "
                + "becomes heat.");
        LendingCells x = Runs.loaded("Bc20100c20110c20200");
        is("full, 1 too much, all too much", x.charge(10), 11);
        about("account", x, 3, 0, 0, 60, 41 + 30, 0, 11);
        for (int c = 0; c < 3; c++) {
            is("full", x.cell(c, 1), 20);
        }
        LendingCells y = fallen();
        is("a bankrupt one", y.charge(30), 0);
        about("a bankrupt one", y, 3, 0, 3, 9 + 20 + 60, 30 + 60, 0, 1);
        is("a bankrupt one, more", y.charge(99), 39 + 99);
    }

    private void drawing() {
        says("When n is drawn, each cell that is not bankrupt must give n units, which are used.");
        LendingCells x = Runs.loaded("Bc50400c50250c50260");
        is("used", x.draw(25), 75);
        about("account", x, 3, 0, 0, 16, 91, 75, 0, 0);
        is("all that it has", x.cell(1, 1), 0);
        is("1 is left", x.cell(2, 1), 1);
        LendingCells y = fallen();
        is("without the bankrupt one", y.draw(9), 18);
        is("used", y.about(5), 18);
        is("no loan", y.about(1), 0);
    }

    private void borrowing() {
        says("First, each such cell with less than n, ascending, borrows: the lender is the cell, of others that are not "
                + "bankrupt, with the greatest charge (as charges are then), among several the lowest one; the loan has "
                + "the smallest size with which as many units arrive as the cell lacks; its rate is 10.");
        LendingCells one = Runs.loaded("Bc50400c50090c50100");
        is("9 is less than 10, 10 is not", one.draw(10), 30);
        is("one loan", one.about(1), 1);
        loan("1 is lacking", one, 0, 0, 1, 1, 10, 1, 1);
        LendingCells tie = Runs.loaded("Bc50390c50400c50050c50400");
        tie.draw(10);
        loan("the lowest of the greatest", tie, 0, 1, 2, 5, 10, 1, 5);
        // The first loan makes the greatest one less than another.
        LendingCells then = Runs.loaded("Bc50000c50000c50400c50380");
        is("two loans", then.draw(10), 40);
        loan("10 of 11 arrive", then, 0, 2, 0, 11, 10, 2, 10);
        loan("as charges are then", then, 1, 3, 1, 11, 10, 2, 10);
        LendingCells even = Runs.loaded("Bc50200c50010c50390");
        is("19 arrive of 19", even.draw(20), 60);
        loan("from the other side", even, 0, 2, 1, 19, 10, 2, 19);
        LendingCells twenty = Runs.loaded("Bc50000c50410");
        is("20 arrive of 21", twenty.draw(20), 40);
        loan("20 arrive of 21", twenty, 0, 1, 0, 21, 10, 3, 20);
        about("20 arrive of 21", twenty, 2, 1, 0, 0, 41, 40, 1, 21);
        LendingCells far = Runs.loaded("Bc99990" + "c99500".repeat(6) + "c99250");
        is("25 lack, 7 cells far", far.draw(50), 400);
        loan("25 arrive of 37", far, 0, 0, 7, 37, 10, 4, 25);
        LendingCells besides = Runs.loaded("Bc99100c99003l010150c50000c50300");
        besides.pass(3);
        besides.draw(5);
        loan("not the bankrupt one", besides, 0, 3, 2, 5, 10, 1, 5);
    }

    private void possibleLoans() {
        says("It is possible if the capacity of the cell is at least n, the lender has at least n left then, and there "
                + "are fewer than 12 loans.");
        LendingCells small = Runs.loaded("Bc99990c10000");
        refuses("a capacity of 10, and 11", small, ISE, () -> small.draw(11));
        is("a capacity of 10, and 10", small.draw(10), 20);
        LendingCells least = Runs.loaded("Bc99190c99000");
        refuses("9 are left", least, ISE, () -> least.draw(10));
        is("10 are left", least.draw(9), 18);
        LendingCells just = Runs.loaded("Bc99200c99000");
        is("just n are left", just.draw(10), 20);
        is("just n are left", just.about(3), 0);
        LendingCells eleven = Runs.loaded("Bc99990c99000" + "l010100".repeat(11));
        is("the twelfth loan", eleven.draw(12), 24);
        is("the twelfth loan", eleven.about(1), 12);
        LendingCells twelve = Runs.loaded(TWELVE);
        refuses("the thirteenth loan", twelve, ISE, () -> twelve.draw(13));
        is("no loan is needed", twelve.draw(12), 24);
        // The greatest one lies too far; the nearer one is not asked.
        LendingCells far = Runs.loaded("Bc99000c99320" + "c99200".repeat(5) + "c99330");
        refuses("only the greatest one is asked", far, ISE, () -> far.draw(15));
    }

    private void notAtAll() {
        says("If one of these loans is not possible, nothing is drawn at all.");
        // Cell 0 could borrow, cell 2 could not.
        LendingCells x = Runs.loaded("Bc99000c99080c99000");
        refuses("the second loan", x, ISE, () -> x.draw(4));
        refuses("no action", x, ISE, x::undo);
        is("not in a simulation", x.simulate(1, 1), 0);
        is("not in a count", x.draws(4), 0);
        is("the most", x.most(), 2);
        LendingCells last = Runs.loaded("B" + "c99500".repeat(7) + "c10000");
        refuses("the last cell", last, ISE, () -> last.draw(11));
        is("the last cell", last.draw(10), 80);
    }

    private void kept(String what, LendingCells x) {
        is(what, x.about(4), x.about(3) + x.about(5) + x.about(6));
    }

    private void account() {
        says("What was put in is in the cells, was used, or became heat.");
        LendingCells x = new LendingCells();
        kept("new", x);
        Runs.tell(x, "Bc99993c30001c50302l012110c99001l233050");
        x.load();
        kept("told", x);
        x.addCell(99, 99, 3);
        kept("added", x);
        x.pass(1);
        kept("one round", x);
        x.lend(4, 0, 20, 50);
        kept("lent", x);
        x.repay(0, 5);
        kept("repaid", x);
        x.charge(40);
        kept("charged", x);
        x.draw(17);
        kept("drawn", x);
        x.pass(3);
        kept("rounds", x);
        x.save(0);
        x.pass(50);
        kept("bankrupt ones", x);
        x.undo();
        kept("taken back", x);
        x.restore(0);
        kept("restored", x);
    }
}
