/** The terms on a round. */
final class RoundSentences extends Sentences {
    RoundSentences(Check check, Document document) {
        super(check, document);
    }

    @Override
    void test() {
        terms();
        inThisOrder();
        leaks();
        interestOrAllCharge();
        noInterestIsNeverMissed();
        lateForOneMore();
        bankruptAfterThree();
        whatIsLeft();
        loansAreGone();
        roundsGrow();
    }

    private void inThisOrder() {
        says("When a round goes by, this happens, in this order:");
        // 3 with a leak of 2 and an interest of 2: the leak takes 2 first, so that the interest is missed.
        LendingCells x = Runs.loaded("Bc99990c99002l010350");
        x.pass(1);
        is("the leak is first", x.cell(1, 3), 1);
        is("the leak is first", x.costs(0, 1), 0);
        // Cell 1 has 11 and loses 3 and 1: 7, 3, and then 0 three times; interest is burnt before it becomes bankrupt.
        LendingCells y = Runs.loaded("Bc99990c50303c50000l122010l010110");
        is("bankrupt in the fifth round", y.holds(1), 5);
        is("its borrower still burns in the fifth", y.costs(0, 5), 10);
        is("and no more in the sixth", y.costs(0, 6), 10);
    }

    private void leaks() {
        says("1. Each cell, ascending, that is not bankrupt loses its leak (or all its charge, if that is less) as heat.");
        LendingCells x = Runs.loaded("Bc50103c50033c50023c50001c50090");
        x.pass(1);
        int[] due = {7, 0, 0, 0, 9};
        for (int c = 0; c < due.length; c++) {
            is("cell " + c, x.cell(c, 1), due[c]);
        }
        is("heat", x.about(6), 3 + 3 + 2);
        LendingCells y = fallen();
        y.setLeak(1, 3);
        int heat = y.about(6);
        y.pass(50);
        is("a bankrupt one loses none", y.about(6), heat);
    }

    private void interestOrAllCharge() {
        says("2. Each loan, in order: if the charge of its borrower is at least the interest, the borrower burns the "
                + "interest as heat; otherwise it burns all its charge so, and the loan is missed.");
        // An interest of 3 with a charge of 6: 3, 0, and then missed.
        LendingCells x = Runs.loaded("Bc99990c99000l010750");
        x.repay(0, 1);
        is("interest", x.loan(0, 4), 3);
        x.pass(1);
        is("burnt", x.cell(1, 1), 3);
        is("heat", x.about(6), 3);
        x.pass(1);
        is("just the interest", x.cell(1, 1), 0);
        is("is not missed", x.cell(1, 3), 0);
        is("nothing less is owed", x.loan(0, 2), 6);
        x.charge(1);
        x.charge(1);
        x.pass(1);
        is("1 too little: all is burnt", x.cell(1, 1), 0);
        is("heat", x.about(6), 3 + 3 + 2);
        is("and missed", x.cell(1, 3), 1);
        // Interests of 5 and of 1 with 5: the first loan takes all, the second one is missed.
        LendingCells y = Runs.loaded("Bc99990c20000l011050l010110");
        y.draw(6);
        is("in order: the first one", y.costs(0, 1), 5);
        is("in order: the second one", y.costs(1, 1), 0);
        y.pass(1);
        is("in order: late", y.cell(1, 3), 1);
        // 1 ahead of 5: the small one burns first, and the great one all that is left.
        LendingCells z = Runs.loaded("Bc99990c20000l010110l011050");
        z.draw(6);
        is("in order: the first one", z.costs(0, 1), 1);
        is("in order: the second one", z.costs(1, 1), 4);
    }

    private void noInterestIsNeverMissed() {
        says("(An interest of 0 is never missed.)");
        LendingCells x = Runs.loaded("Bc99990c99003l010100");
        is("none falls", x.pass(50), 0);
        cell("no charge, and not late", x, 1, 99, 0, 3, 0, 1, 0, 0, 1);
        is("holds out", x.holds(1), NONE);
    }

    private void lateForOneMore() {
        says("3. Each cell, ascending, that is not bankrupt: if a loan of which it is the borrower was missed in this "
                + "round (also one that is gone by now), it is late for 1 round more; otherwise it is late for 0 rounds.");
        LendingCells x = Runs.loaded("Bc99990c99003c99003l010150l010150l020150");
        x.pass(1);
        is("two missed loans are 1 round", x.cell(1, 3), 1);
        is("one missed loan", x.cell(2, 3), 1);
        is("the lender is not late", x.cell(0, 3), 0);
        x.pass(1);
        is("1 more", x.cell(1, 3), 2);
        x.charge(4);
        x.pass(1);
        is("4 less 3 pays only one of two", x.about(9), 2);
        is("4 less 3 pays the one: 0 rounds", x.cell(2, 3), 0);
        x.pass(2);
        is("from the front again", x.cell(2, 3), 2);
        // Cell 0 falls in round 3 with the loan that cell 1 missed in it.
        LendingCells y = Runs.loaded("Bc10013c10000c10050l010150l200150");
        y.pass(2);
        is("late in round 2", y.cell(1, 3), 1);
        is("the lender falls", y.pass(1), 1);
        is("the loan is gone", y.about(1), 0);
        is("late for it all the same", y.cell(1, 3), 2);
        y.pass(1);
        is("then 0", y.cell(1, 3), 0);
        // A loan that was repaid between two rounds is not missed.
        LendingCells z = Runs.loaded("Bc99500c99003l010150");
        z.pass(2);
        z.charge(1);
        z.repay(0, 1);
        is("repaid", z.pass(1), 0);
        is("repaid", z.cell(1, 3), 0);
    }

    private void bankruptAfterThree() {
        says("If it is late for 3 rounds then, it becomes bankrupt:");
        LendingCells x = Runs.loaded("Bc99500c99003l010150");
        is("first round", x.pass(1), 0);
        is("second round", x.pass(1), 0);
        is("late for 2", x.cell(1, 3) * 10 + x.cell(1, 7), 22);
        is("third round", x.pass(1), 2);
        is("late for 3", x.cell(1, 3) * 10 + x.cell(1, 7), 33);
        is("stays so", x.pass(50), 0);
        is("stays so", x.cell(1, 3) * 10 + x.cell(1, 7), 33);
        LendingCells y = ring();
        y.pass(2);
        is("none of the ring", y.about(9), 0);
        is("all of the ring", y.pass(1), 255);
        // Two rounds late, one in time, two late again.
        LendingCells z = Runs.loaded("Bc99500c99003l010150");
        z.pass(2);
        z.charge(4);
        is("in time", z.pass(3), 0);
        is("late for 2 again", z.cell(1, 3), 2);
    }

    /**
     * A cell that becomes bankrupt has missed a loan in the same round, and so has burnt all its charge: C is 0
     * in each run, and so are the shares. D is 0 for one whose lenders became bankrupt ahead of it.
     */
    private void whatIsLeft() {
        says("let C be its charge and D all that it owes. For each loan of which it is the borrower, in order, "
                + "C * (owed) / D, rounded down, of its charge go to the lender, but no more than makes the lender full "
                + "(what would be too much becomes heat; there is no other heat in this). What is left of its charge "
                + "becomes heat.");
        LendingCells x = Runs.loaded("Bc50500c50000c50500l012050l210850");
        // Interests of 10 and 4 with a charge of 27: then 13, then 0; there is none left for the lenders.
        is("falls", x.pass(4), 2);
        is("the first lender", x.cell(0, 1), 30);
        is("the second lender", x.cell(2, 1), 42);
        about("account", x, 3, 0, 4, 72, 100, 0, 28, 0, 28, 2);
        LendingCells y = ring();
        is("D of 0", y.pass(3), 255);
        about("D of 0", y, 8, 0, 3, 0, 8, 0, 8, 0, 8, 255);
    }

    private void loansAreGone() {
        says("All its loans are gone: what is owed to others is written off (all of it, whatever went to them), and "
                + "what others owe to it is forgiven.");
        LendingCells x = Runs.loaded("Bc99990c99003c99000l020110l010450l020220l120100l010250l020330");
        // Cell 1 has 4 then: 1 behind the leak, and an interest of 2.
        x.repay(1, 1);
        is("falls", x.pass(4), 2);
        is("3 and 2 written off, 1 forgiven", x.about(8), 6);
        is("those of others are left", x.about(1), 3);
        loan("in their order", x, 0, 0, 2, 1, 10, 1, 1);
        loan("in their order", x, 1, 0, 2, 2, 20, 1, 2);
        loan("in their order", x, 2, 0, 2, 3, 30, 1, 3);
        is("what others owe is less", x.cell(2, 4), 6);
        is("what is owed to others is less", x.cell(0, 5), 6);
        LendingCells y = Runs.loaded(FALLING);
        y.repay(0, 1);
        y.lend(2, 1, 5, 0);
        y.lend(1, 0, 1, 50);
        is("without interest none falls", y.pass(3), 0);
        is("nothing written off", y.about(8), 0);
    }

    private void roundsGrow() {
        says("4. The number of rounds grows by 1.");
        LendingCells x = new LendingCells();
        is("at first", x.about(2), 0);
        x.pass(1);
        is("without cells", x.about(2), 1);
        x.pass(50);
        is("50 more", x.about(2), 51);
        LendingCells y = fallen();
        y.pass(1);
        is("behind a bankrupt one", y.about(2), 4);
    }
}
