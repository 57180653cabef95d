/** Promises 1 to 9: a new object, the text, and what there is. */
final class StateSentences extends Sentences {
    StateSentences(Check check, Document document) {
        super(check, document);
    }

    @Override
    void test() {
        promise(1);
        newObject();
        promise(2);
        append();
        promise(3);
        clearText();
        promise(4);
        errorPosition();
        promise(5);
        load();
        promise(6);
        about();
        promise(7);
        cell();
        promise(8);
        loan();
        promise(9);
        order();
    }

    private void newObject() {
        says("Creates a battery without cells.");
        LendingCells x = new LendingCells();
        about("new", x, 0, 0, 0, 0, 0, 0, 0, 0, 0, 0);
        is("no text", x.clearText(), 0);
        is("no battery is told", x.errorPosition(), 0);
        refuses("no cell", x, IOOBE, () -> x.cell(0, 0));
        refuses("no loan", x, IOOBE, () -> x.loan(0, 0));
        refuses("nothing remembered", x, ISE, x::undo);
        refuses("nothing in slot 0", x, ISE, () -> x.restore(0));
        refuses("nothing in slot 1", x, ISE, () -> x.restore(1));
        is("no first cell", x.order(0), NONE);
        is("nothing to draw", x.most() + x.draws(1), 0);
        is("nothing to charge", x.charge(99), 0);
        LendingCells other = new LendingCells();
        other.addCell(10, 5, 0);
        other.append('B');
        is("objects are apart", x.about(0) + x.clearText(), 0);
    }

    private void append() {
        says("Appends a character to the text buffer.");
        LendingCells x = new LendingCells();
        x.append('B');
        is("read", x.errorPosition(), NONE);
        x.append('c');
        is("behind the first one", x.errorPosition(), 2);

        says("c: character code, 0 to 255");
        LendingCells codes = new LendingCells();
        is("0", codes.append(0), 1);
        is("255", codes.append(255), 2);

        says("Returns the new length of the text.");
        LendingCells y = new LendingCells();
        for (int length = 1; length <= 120; length++) {
            is("length", y.append('B'), length);
        }

        says("Throws IllegalArgumentException if c is out of range");
        for (int c : outside(0, 255)) {
            refuses("code " + c, x, IAE, () -> x.append(c));
        }
        // These would be letters if only their lowest bits were kept.
        refuses("code 256 + c", x, IAE, () -> x.append(256 + 'c'));
        refuses("code 65536 + c", x, IAE, () -> x.append(65536 + 'c'));
        is("none was appended", x.clearText(), 2);

        says("Throws IllegalStateException if the text already has 120 characters");
        refuses("the 121st", y, ISE, () -> y.append('B'));
        refuses("the 121st, again", y, ISE, () -> y.append(0));
        is("120 are there", y.clearText(), 120);
        is("room again", y.append('B'), 1);
    }

    private void clearText() {
        says("Empties the text buffer.");
        LendingCells x = Runs.told("Bc10100");
        x.clearText();
        is("empty", x.errorPosition(), 0);
        x.append('B');
        is("from the front", x.errorPosition(), NONE);
        x.append('c');
        is("nothing is left behind", x.errorPosition(), 2);

        says("Returns the previous length of the text.");
        is("2", x.clearText(), 2);
        is("empty", x.clearText(), 0);
        x.append('B');
        is("1", x.clearText(), 1);
        Runs.tell(x, "x".repeat(120));
        is("120", x.clearText(), 120);
    }

    private void errorPosition() {
        says("Checks the text.");
        LendingCells x = Runs.loaded("Bc20100");
        x.charge(1);
        x.save(0);
        Runs.tell(x, "Bc99990c50000l010100");
        is("a battery", x.errorPosition(), NONE);
        is("is not loaded", x.about(0), 1);
        is("again", x.errorPosition(), NONE);
        is("nothing is forgotten", x.undo(), 0);
        is("no slot is emptied", x.restore(0), 11);
        is("the text is kept", x.clearText(), 20);

        says("Returns the error position of the text; NONE if it is a battery.");
        is("empty", Runs.told("").errorPosition(), 0);
        is("the first", Runs.told("b").errorPosition(), 0);
        is("least", Runs.told("B").errorPosition(), NONE);
        is("behind the last", Runs.told("Bc").errorPosition(), 2);
        is("the last of 120", Runs.told("B" + "c99500".repeat(8) + "l010100".repeat(10) + "x").errorPosition(), 119);
        is("a battery", Runs.told(TWELVE + "c99993").errorPosition(), NONE);
    }

    private void load() {
        says("Replaces everything by the battery of the text.");
        LendingCells x = Runs.loaded("Bc99990c99003c50500l010150l200110");
        x.draw(1);
        x.pass(5);
        is("a bankrupt one", x.about(9), 2);
        x.save(0);
        x.save(1);
        // What was tried out ahead of it leaves nothing behind either.
        x.costs(0, 50);
        x.simulate(0, 50);
        // Of 52, 2 become heat.
        Runs.tell(x, "Bc99990c50002l015210");
        is("cells", x.load(), 2);
        about("all numbers", x, 2, 1, 0, 97, 99, 0, 2, 52, 0, 0);
        cell("lender", x, 0, 99, 47, 0, 0, 0, 52, 0, 0);
        cell("borrower", x, 1, 50, 50, 2, 0, 52, 0, 6, 1);
        loan("loan", x, 0, 0, 1, 52, 10, 6, 50);

        says("Forgets all remembered states and empties both save slots.");
        refuses("nothing remembered", x, ISE, x::undo);
        refuses("slot 0", x, ISE, () -> x.restore(0));
        refuses("slot 1", x, ISE, () -> x.restore(1));

        says("Keeps the text.");
        is("the same again", x.load(), 2);
        is("one more character", x.append('c'), 21);
        is("read behind it", x.errorPosition(), 21);

        says("Returns the number of cells.");
        is("none", Runs.told("B").load(), 0);
        is("one", Runs.told("Bc10100").load(), 1);
        is("eight", Runs.told("B" + "c10050".repeat(8) + "l010100").load(), 8);

        says("Throws IllegalStateException if the text is not a battery");
        refuses("too short", x, ISE, x::load);
        LendingCells empty = new LendingCells();
        refuses("empty", empty, ISE, empty::load);
        LendingCells last = Runs.told("Bc10100c10100x");
        last.addCell(10, 1, 0);
        refuses("only the last one is wrong", last, ISE, last::load);
        is("the state is kept", last.about(3), 1);
        is("what is remembered is kept", last.undo(), 0);
    }

    private void about() {
        says("Returns a number.");
        LendingCells x = Runs.loaded("Bc99990c99003c99000l010250");
        is("least", x.about(0), 3);
        is("greatest", x.about(9), 0);

        says("what: 0: the number of cells; 1: of loans; 2: of rounds that went by; 3: all charge; 4: what was put in; "
                + "5: used; 6: became heat; 7: what is owed in all loans together; 8: what was written off or forgiven; "
                + "9: the bankrupt cells, bit c set for the cell c");
        about("told", x, 3, 1, 0, 99, 99, 0, 0, 2, 0, 0);
        x.lend(0, 2, 20, 0);
        about("lent", x, 3, 2, 0, 97, 99, 0, 2, 22, 0, 0);
        x.draw(1);
        about("drawn", x, 3, 2, 0, 94, 99, 3, 2, 22, 0, 0);
        x.charge(25);
        about("charged", x, 3, 2, 0, 167, 174, 3, 4, 22, 0, 0);
        x.addCell(10, 7, 1);
        about("added", x, 4, 2, 0, 174, 181, 3, 4, 22, 0, 0);
        x.pass(20);
        about("passed", x, 4, 1, 20, 141, 181, 3, 37, 20, 2, 2);
        LendingCells all = ring();
        all.pass(3);
        is("all eight bits", all.about(9), 255);
        is("all loans", all.about(8), 8);

        says("Returns that number.");
        LendingCells last = Runs.loaded("B" + "c99500".repeat(7) + "c99003l670150");
        last.pass(3);
        is("the highest bit", last.about(9), 128);

        says("Throws IllegalArgumentException if what is not 0 to 9");
        for (int what : outside(0, 9)) {
            refuses("number " + what, x, IAE, () -> x.about(what));
            LendingCells none = new LendingCells();
            refuses("no cells, number " + what, none, IAE, () -> none.about(what));
        }
    }

    private void cell() {
        says("Returns a number of a cell.");
        LendingCells x = Runs.loaded("Bc50500c50102c50203");
        cell("the first", x, 0, 50, 50, 0, 0);
        cell("the last", x, 2, 50, 20, 3, 0);

        says("c: cell");
        for (int c = 0; c < 3; c++) {
            is("leak of " + c, x.cell(c, 2), c == 0 ? 0 : c + 1);
        }

        says("what: 0: its capacity; 1: its charge; 2: its leak; 3: for how many rounds it is late (3, if it is bankrupt); "
                + "4: what it owes in all its loans; 5: what others owe to it; 6: the interest of all loans of which it "
                + "is the borrower; 7: its kind: 0: it owes nothing; 1: it owes something; 2: it is late; 3: it is "
                + "bankrupt (the greatest of these that holds)");
        x.lend(0, 1, 1, 1);
        x.lend(2, 1, 1, 1);
        x.lend(0, 1, 7, 10);
        x.lend(1, 2, 4, 0);
        // The interest is rounded up for each loan: 1, 1 and 1.
        cell("owes and is owed", x, 1, 50, 15, 2, 0, 9, 4, 3, 1);
        cell("is owed only", x, 0, 50, 42, 0, 0, 0, 8, 0, 0);
        cell("owes without interest", x, 2, 50, 23, 3, 0, 4, 1, 0, 1);
        LendingCells late = Runs.loaded("Bc20100c10003l010150");
        late.pass(1);
        cell("late, and owes", late, 1, 10, 0, 3, 1, 1, 0, 1, 2);
        late.pass(1);
        cell("late twice", late, 1, 10, 0, 3, 2, 1, 0, 1, 2);
        late.charge(1);
        late.repay(0, 1);
        cell("late, and owes nothing", late, 1, 10, 0, 3, 2, 0, 0, 0, 2);
        LendingCells fallen = fallen();
        cell("bankrupt", fallen, 1, 99, 0, 3, 3, 0, 0, 0, 3);
        fallen.pass(9);
        cell("bankrupt for long", fallen, 1, 99, 0, 3, 3, 0, 0, 0, 3);
        cell("its lender", fallen, 0, 99, 9, 0, 0, 0, 0, 0, 0);

        says("Returns that number.");
        is("a full one of 99", Runs.loaded("Bc99993").cell(0, 1), 99);

        says("Throws IndexOutOfBoundsException if there is no such cell");
        for (int c : outside(0, 2)) {
            LendingCells y = Runs.loaded("Bc50500c50102c50203");
            refuses("cell " + c, y, IOOBE, () -> y.cell(c, 0));
            refuses("cell " + c + ", and no number", y, IOOBE, () -> y.cell(c, 8));
        }
        x.addCell(10, 0, 0);
        is("it is there", x.cell(3, 0), 10);
        x.undo();
        refuses("it is there no more", x, IOOBE, () -> x.cell(3, 0));

        says("Throws IllegalArgumentException if what is not 0 to 7");
        for (int what : outside(0, 7)) {
            refuses("number " + what, x, IAE, () -> x.cell(0, what));
        }
    }

    private void loan() {
        says("Returns a number of a loan.");
        LendingCells x = Runs.loaded("Bc99990c99000c99000l022010l210520");
        loan("the first", x, 0, 0, 2, 20, 10, 2, 18);
        loan("the last", x, 1, 2, 1, 5, 20, 1, 5);

        says("i: loan");
        LendingCells twelve = Runs.loaded("Bc99990c99000");
        for (int i = 0; i < 12; i++) {
            twelve.lend(0, 1, 1, i);
        }
        for (int i = 0; i < 12; i++) {
            is("rate of " + i, twelve.loan(i, 3), i);
        }

        says("what: 0: its lender; 1: its borrower; 2: what is owed; 3: its rate; 4: its interest; 5: what arrived of it "
                + "when it was made");
        x.repay(0, 13);
        loan("what arrived stays, the interest is of what is owed", x, 0, 0, 2, 7, 10, 1, 18);
        x.charge(50);
        x.draw(9);
        x.pass(9);
        loan("after some rounds", x, 0, 0, 2, 7, 10, 1, 18);
        x.repay(0, 7);
        loan("when one ahead is gone", x, 0, 2, 1, 5, 20, 1, 5);

        says("Returns that number.");
        LendingCells most = Runs.loaded("Bc99990c99000l019950");
        loan("greatest", most, 0, 0, 1, 99, 50, 50, 95);

        says("Throws IndexOutOfBoundsException if there is no such loan");
        refuses("one that was behind", x, IOOBE, () -> x.loan(1, 0));
        for (int i : outside(0, 0)) {
            LendingCells y = Runs.loaded("Bc99990c99000l010100");
            refuses("loan " + i, y, IOOBE, () -> y.loan(i, 0));
            refuses("loan " + i + ", and no number", y, IOOBE, () -> y.loan(i, 6));
        }
        refuses("loan 12 of 12", twelve, IOOBE, () -> twelve.loan(12, 0));
        LendingCells none = Runs.loaded("Bc10100");
        refuses("no loans", none, IOOBE, () -> none.loan(0, 0));

        says("Throws IllegalArgumentException if what is not 0 to 5");
        for (int what : outside(0, 5)) {
            refuses("number " + what, x, IAE, () -> x.loan(0, what));
        }
    }

    private void order() {
        says("Returns the cells in the order of their charge.");
        LendingCells x = Runs.loaded("Bc20050c20090c20090c20000c99070");
        StringBuilder seen = new StringBuilder();
        for (int place = 0; place < 5; place++) {
            seen.append(x.order(place));
        }
        is("not of their capacity", seen.toString(), "12403");

        says("place: 0 or more");
        is("0", x.order(0), 1);

        says("Returns the cell with this place, from 0, when those with a greater charge are first, of several the lowest "
                + "one (bankrupt ones are left out); NONE if there are not so many.");
        LendingCells same = Runs.loaded("B" + "c99000".repeat(8));
        for (int place = 0; place < 8; place++) {
            is("all alike", same.order(place), place);
        }
        is("no ninth", same.order(8), NONE);
        is("far", same.order(Integer.MAX_VALUE), NONE);
        is("no sixth", x.order(5), NONE);
        LendingCells fallen = Runs.loaded("Bc20010c10003c20000l010150");
        fallen.pass(3);
        is("0 each: the first", fallen.order(0), 0);
        is("0 each: without the bankrupt one", fallen.order(1), 2);
        is("0 each: not so many", fallen.order(2), NONE);
        LendingCells all = ring();
        all.pass(3);
        is("all are bankrupt", all.order(0), NONE);
        is("no cells", new LendingCells().order(0), NONE);

        says("Throws IllegalArgumentException if place is negative");
        refuses("-1", x, IAE, () -> x.order(-1));
        refuses("least", x, IAE, () -> x.order(Integer.MIN_VALUE));
        LendingCells none = new LendingCells();
        refuses("-1 without cells", none, IAE, () -> none.order(-1));
    }
}
