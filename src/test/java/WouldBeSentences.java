/** Promises 18 to 22: what would be. */
final class WouldBeSentences extends Sentences {
    WouldBeSentences(Check check, Document document) {
        super(check, document);
    }

    @Override
    void test() {
        promise(18);
        holds();
        promise(19);
        draws();
        promise(20);
        most();
        promise(21);
        bestLender();
        noBestLender();
        promise(22);
        costs();
    }

    private void holds() {
        says("Tells how long a cell holds out.");
        LendingCells x = Runs.loaded(FALLING);
        is("cell 1", x.holds(1), 3);
        is("asked only", x.about(2) + x.about(9), 0);

        says("c: cell");
        is("the first", x.holds(0), NONE);
        is("the last", x.holds(2), NONE);

        says("Returns the number of the rounds that go by until it is bankrupt (the one in which it becomes so included), at "
                + "most 100; 0 if it is; NONE if it does not become so in 100 rounds.");
        // An interest of 1 a round: with 97, rounds 98 to 100 are missed.
        is("99", Runs.loaded("Bc10050c99950l010101").holds(1), 99);
        is("100", Runs.loaded("Bc10050c99960l010101").holds(1), 100);
        is("not in 100", Runs.loaded("Bc10050c99970l010101").holds(1), NONE);
        for (int left = 2; left >= 0; left--) {
            x.pass(1);
            is("one less each round", x.holds(1), left);
        }
        x.pass(1);
        is("it is for long", x.holds(1), 0);
        is("others are not", x.holds(0), NONE);
        LendingCells all = ring();
        for (int c = 0; c < 8; c++) {
            is("all at once", all.holds(c), 3);
        }

        says("Throws IndexOutOfBoundsException if there is no such cell");
        for (int c : outside(0, 2)) {
            refuses("cell " + c, x, IOOBE, () -> x.holds(c));
        }
        LendingCells none = new LendingCells();
        refuses("no cells", none, IOOBE, () -> none.holds(0));
    }

    private void draws() {
        says("Tells how often the battery can still give.");
        LendingCells x = Runs.loaded("Bc99990");
        is("by 10", x.draws(10), 9);
        is("asked only", x.about(5), 0);

        says("n: 1 to 99");
        is("by 1", x.draws(1), 99);
        is("by 99", x.draws(99), 1);

        says("Returns how many times draw(n) would be possible, one behind the other.");
        is("just once", x.draws(50), 1);
        is("just twice", x.draws(49), 2);
        is("never", Runs.loaded("Bc99090").draws(10), 0);
        is("no cells", new LendingCells().draws(1), 0);
        is("eight full ones", Runs.loaded("B" + "c99990".repeat(8)).draws(1), 99);
        // 5 lent and 5 given each time: 40, 30, 20, 10, 0.
        is("with loans", Runs.loaded("Bc50400c50000").draws(5), 4);
        is("twelve loans", Runs.loaded("Bc99990c99000").draws(1), 12);
        LendingCells all = ring();
        all.pass(3);
        is("all bankrupt", all.draws(1), 0);
        LendingCells y = Runs.loaded("Bc80770c60120c99550c10100c70213");
        int times = y.draws(7);
        for (int k = times; k > 0; k--) {
            is("as often as it is said", y.draws(7), k);
            y.draw(7);
        }
        refuses("and not once more", y, ISE, () -> y.draw(7));

        says("Throws IllegalArgumentException if n is out of range");
        for (int n : outside(1, 99)) {
            refuses("n " + n, x, IAE, () -> x.draws(n));
            LendingCells none = new LendingCells();
            refuses("no cells, n " + n, none, IAE, () -> none.draws(n));
        }
    }

    private void most() {
        says("Tells the most that can be drawn at once.");
        LendingCells x = Runs.loaded("Bc50400c50000");
        // With 19, 21 are left; with 20, 21 are lent and 19 left.
        is("with a loan", x.most(), 19);
        is("asked only", x.about(3) + x.about(1), 40);
        refuses("not 20", x, ISE, () -> x.draw(20));
        is("but 19", x.draw(19), 38);

        says("Returns the greatest n from 1 to 99 with which draw(n) is possible; 0 if there is none.");
        is("99", Runs.loaded("Bc99990c99990").most(), 99);
        is("98", Runs.loaded("Bc99990c99980").most(), 98);
        is("1", Runs.loaded("Bc99010").most(), 1);
        is("0", Runs.loaded("Bc99000").most(), 0);
        is("no cells", new LendingCells().most(), 0);
        is("the least capacity", Runs.loaded("Bc99990c10000").most(), 10);
        is("twelve loans", Runs.loaded(TWELVE).most(), 12);
        is("without the bankrupt one", fallen().most(), 14);
        LendingCells all = ring();
        all.pass(3);
        is("all bankrupt", all.most(), 0);
        // With 27, cell 4 would ask cell 0, which has 48 then, like cell 3, and lies too far; with 28, cell 3.
        LendingCells gap = Runs.loaded("Bc99940c99050c99060c99480c99090");
        is("the greatest behind a gap", gap.most(), 28);
        refuses("the gap", gap, ISE, () -> gap.draw(27));
        is("behind the gap", gap.draw(28), 5 * 28);
    }

    private void bestLender() {
        says("Finds who should lend.");
        LendingCells x = Runs.loaded("Bc50000c50200c50500");
        is("10 of the nearer one, not 11", x.bestLender(0, 10), 1);
        is("asked only", x.about(1), 0);

        says("c: cell that lacks charge");
        is("of the last one", x.bestLender(1, 30), 2);
        is("not itself", x.bestLender(2, 1), NONE);

        says("n: 1 to 99: how much should arrive");
        is("1", x.bestLender(0, 1), 2);
        is("99", x.bestLender(0, 99), NONE);
        is("50", Runs.loaded("Bc50000c99990").bestLender(0, 50), 1);
    }

    private void noBestLender() {
        says("Returns the lender, another cell that is not bankrupt and has a charge of at least this size, from which the "
                + "smallest size of a loan makes n or more arrive, among several the one with the greatest charge, then the "
                + "lowest one; NONE if there is none, if c is bankrupt, or if what arrives would be too much for it.");
        LendingCells x = Runs.loaded("Bc50000c50200c50500");
        is("the smaller size, with less charge", x.bestLender(0, 10), 1);
        is("the same size, with more charge", x.bestLender(0, 9), 2);
        is("19 of 19", x.bestLender(0, 19), 1);
        is("20 of 20 would be 19: the other one", x.bestLender(0, 20), 2);
        is("all of it: 45 of 50", x.bestLender(0, 45), 2);
        is("46 of 51", x.bestLender(0, 46), NONE);
        LendingCells even = Runs.loaded("Bc50050c50090c50000c50090c50030");
        is("the lowest one of the same charge", even.bestLender(2, 3), 1);
        is("the lowest one of the same charge, from ahead", even.bestLender(0, 3), 1);
        LendingCells more = Runs.loaded("Bc50050c50080c50000c50090c50030");
        is("the greater one behind", more.bestLender(2, 3), 3);
        LendingCells wide = Runs.loaded("B" + "c99000".repeat(7) + "c99990");
        is("65 of 99", wide.bestLender(0, 65), 7);
        is("66 of more", wide.bestLender(0, 66), NONE);
        is("99 of more", wide.bestLender(0, 99), NONE);
        LendingCells room = Runs.loaded("Bc10050c99990");
        is("just full", room.bestLender(0, 5), 1);
        is("1 too much", room.bestLender(0, 6), NONE);
        is("for a full one", room.bestLender(1, 1), NONE);
        is("alone", Runs.loaded("Bc50200").bestLender(0, 1), NONE);
        LendingCells fallen = fallen();
        is("for a bankrupt one", fallen.bestLender(1, 1), NONE);
        is("not from a bankrupt one", fallen.bestLender(2, 1), 0);
        is("how many loans there are is not asked", Runs.loaded(TWELVE).bestLender(1, 5), 0);

        says("Throws IndexOutOfBoundsException if there is no such cell");
        for (int c : outside(0, 2)) {
            LendingCells y = Runs.loaded("Bc50200c50200c50200");
            refuses("cell " + c, y, IOOBE, () -> y.bestLender(c, 1));
            refuses("cell " + c + ", and 0", y, IOOBE, () -> y.bestLender(c, 0));
        }

        says("Throws IllegalArgumentException if n is out of range");
        for (int n : outside(1, 99)) {
            LendingCells y = fallen();
            refuses("n " + n, y, IAE, () -> y.bestLender(0, n));
            refuses("bankrupt, n " + n, y, IAE, () -> y.bestLender(1, n));
        }
    }

    private void costs() {
        says("Tells what a loan would cost.");
        // The borrower has 8 and burns 2 a round.
        LendingCells x = Runs.loaded("Bc50500c50000l010820");
        is("three rounds", x.costs(0, 3), 6);
        is("asked only", x.about(2) + x.about(6), 0);

        says("i: loan");
        // 3 and 1 a round, with 11: 7, 3, and then 0.
        LendingCells two = Runs.loaded("Bc50500c50000l011030l010101");
        is("the first", two.costs(0, 2), 6);
        is("the second", two.costs(1, 2), 2);
        is("the first, to the end", two.costs(0, 9), 9);
        is("the second, to the end", two.costs(1, 9), 2);

        says("rounds: 1 to 50");
        is("1", x.costs(0, 1), 2);
        is("50", x.costs(0, 50), 8);
        is("all 50 count", Runs.loaded("Bc50500c99900l010101").costs(0, 50), 50);
        is("all 49 count", Runs.loaded("Bc50500c99900l010101").costs(0, 49), 49);

        says("Returns how much its borrower burns for this loan (its interest, or all its charge when it is missed) in the "
                + "next so many rounds.");
        is("just paid", x.costs(0, 4), 8);
        is("missed", x.costs(0, 5), 8);
        // 7 with 2 a round: 5, 3, 1, and all of it.
        LendingCells y = Runs.loaded("Bc50500c50000l010725");
        is("before", y.costs(0, 3), 6);
        is("all its charge", y.costs(0, 4), 7);
        is("no interest", Runs.loaded("Bc50500c50000l011000").costs(0, 50), 0);
        // Loan 0 is gone in the third round; loan 1 is the same one further on, though it is loan 0 then.
        LendingCells gone = Runs.loaded("Bc99990c10003c50000l010150l022010");
        is("one ahead is gone", gone.costs(1, 5), 10);
        is("one that is gone costs no more", gone.costs(0, 50), 0);
        LendingCells behind = Runs.loaded("Bc99990c10003c50000l010450l022010");
        is("those behind are not taken for it", behind.costs(0, 50), 1);
        // The lender, cell 1, falls in the third round.
        LendingCells lender = Runs.loaded("Bc99990c50103c50000l121010l010150");
        is("forgiven", lender.costs(0, 50), 3);
        x.pass(1);
        is("the next ones", x.costs(0, 4), 6);

        says("Throws IndexOutOfBoundsException if there is no such loan");
        for (int i : outside(0, 0)) {
            LendingCells single = Runs.loaded("Bc99990c99000l010110");
            refuses("loan " + i, single, IOOBE, () -> single.costs(i, 1));
            refuses("loan " + i + ", and 0", single, IOOBE, () -> single.costs(i, 0));
        }
        LendingCells none = fallen();
        refuses("gone", none, IOOBE, () -> none.costs(0, 1));

        says("Throws IllegalArgumentException if rounds is out of range");
        LendingCells single = Runs.loaded("Bc99990c99000l010110");
        for (int rounds : outside(1, 50)) {
            refuses("rounds " + rounds, single, IAE, () -> single.costs(0, rounds));
        }
    }
}
