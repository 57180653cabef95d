/** Promises 1 to 5: a new object and the text. */
public final class TextTest {
    private static final Class<IllegalArgumentException> IAE = IllegalArgumentException.class;
    private static final Class<IllegalStateException> ISE = IllegalStateException.class;
    private static final Class<IndexOutOfBoundsException> IOOBE = IndexOutOfBoundsException.class;
    /** Cells of which only the first one has charge; 13 characters. */
    private static final String TWO = "Bc99990c50000";
    private static final Check CHECK = new Check();

    public static void main(String[] args) {
        promise1NewObject();
        promise2Append();
        promise3ClearText();
        promise4Cells();
        promise4Loans();
        promise4Counts();
        promise4ChangesNothing();
        promise5Load();
        promise5Refused();
        CHECK.end();
    }

    private static void promise1NewObject() {
        LendingCells x = new LendingCells();
        for (int what = 0; what <= 9; what++) {
            CHECK.is("1: about " + what, x.about(what), 0);
        }
        CHECK.is("1: no text", x.clearText(), 0);
        CHECK.is("1: most", x.most(), 0);
        CHECK.is("1: order", x.order(0), LendingCells.NONE);
        CHECK.refuses("1: cell", IOOBE, () -> x.cell(0, 0));
        CHECK.refuses("1: loan", IOOBE, () -> x.loan(0, 0));
        CHECK.refuses("1: undo", ISE, x::undo);
        CHECK.refuses("1: restore 0", ISE, () -> x.restore(0));
        CHECK.refuses("1: restore 1", ISE, () -> x.restore(1));
        LendingCells other = new LendingCells();
        other.addCell(10, 5, 0);
        other.append('B');
        CHECK.is("1: objects are apart", x.about(0), 0);
        CHECK.is("1: texts are apart", x.append('B'), 1);
    }

    private static void promise2Append() {
        LendingCells x = new LendingCells();
        CHECK.refuses("2: -1", IAE, () -> x.append(-1));
        CHECK.refuses("2: 256", IAE, () -> x.append(256));
        CHECK.is("2: 0", x.append(0), 1);
        CHECK.is("2: 255", x.append(255), 2);
        for (int length = 3; length <= 120; length++) {
            CHECK.is("2: length", x.append('B'), length);
        }
        CHECK.refuses("2: the 121st", ISE, () -> x.append('B'));
        CHECK.refuses("2: out of range comes first", IAE, () -> x.append(256));
        CHECK.refuses("2: out of range comes first", IAE, () -> x.append(-1));
        CHECK.is("2: a refused one is not there", x.clearText(), 120);
        CHECK.is("2: room again", x.append('B'), 1);
        CHECK.refuses("2: no action", ISE, x::undo);
    }

    private static void promise3ClearText() {
        LendingCells x = Runs.told("Bc10100");
        CHECK.is("3: previous length", x.clearText(), 7);
        CHECK.is("3: empty", x.clearText(), 0);
        CHECK.is("3: empty", x.errorPosition(), 0);
        CHECK.is("3: from the front", x.append('B'), 1);
        CHECK.is("3: nothing is left behind", x.errorPosition(), LendingCells.NONE);
        x.append('c');
        CHECK.is("3: no digit is left behind", x.errorPosition(), 2);
        x.append('1');
        CHECK.is("3: no digit is left behind", x.errorPosition(), 3);
    }

    private static void error(String text, int due) {
        LendingCells x = Runs.told(text);
        CHECK.is("4: " + text, x.errorPosition(), due);
        if (due == LendingCells.NONE) {
            CHECK.is("5: load " + text, Check.outcome(x::load).startsWith("throws"), false);
        } else {
            CHECK.refuses("5: load " + text, ISE, x::load);
        }
    }

    private static void allowed(String text) {
        error(text, LendingCells.NONE);
    }

    private static void promise4Cells() {
        error("", 0);
        error("b", 0);
        error("c10100", 0);
        allowed("B");
        error("B ", 1);
        error("BB", 1);
        error("BC10100", 1);
        error("Bc", 2);
        error("Bc0", 2);
        error("Bc/", 2);
        error("Bc:", 2);
        error("Bc1", 3);
        error("Bc1x", 3);
        error("Bc10", 4);
        error("Bc10 ", 4);
        error("Bc101", 5);
        error("Bc102", 4);
        error("Bc1010", 6);
        error("Bc1011", 5);
        allowed("Bc10100");
        allowed("Bc10000");
        allowed("Bc10093");
        error("Bc10104", 6);
        error("Bc1010l", 6);
        allowed("Bc99993");
        error("Bc9999", 6);
        allowed("Bc15150");
        error("Bc15160", 5);
        error("Bc15200", 4);
        allowed("Bc98980");
        error("Bc98990", 5);
        error("Bc10100x", 7);
        error("Bc10100 c10100", 7);
        error("Bc10100" + (char) 233, 7);
        error("Bc10100" + (char) 0, 7);
        allowed("Bc10100c55553");
    }

    private static void promise4Loans() {
        error("Bl", 1);
        error("Bc10100l", 7);
        error(TWO + "l", 14);
        error(TWO + "l1", 14);
        error(TWO + "l2", 14);
        error(TWO + "l:", 14);
        error(TWO + "l0", 15);
        error(TWO + "l00", 15);
        error(TWO + "l02", 15);
        error(TWO + "l01", 16);
        error(TWO + "l010", 17);
        error(TWO + "l0100", 17);
        error(TWO + "l0101", 18);
        error(TWO + "l01010", 19);
        allowed(TWO + "l010100");
        allowed(TWO + "l010150");
        error(TWO + "l010151", 19);
        error(TWO + "l01016", 18);
        allowed(TWO + "l010149");
        error("Bc55550c90000l0156", 17);
        error("Bc55550c90000l016", 16);
        allowed("Bc55550c90000l015507");
        // A lender without charge: no digit is allowed, though the l is.
        error("Bc10000c10000l", 14);
        error("Bc10000c10000l0", 14);
        // What arrives: 52 - 2 = 50 just fits, 53 - 2 = 51 does not; this is seen behind the last digit.
        allowed(TWO + "l015210");
        error(TWO + "l01531", 19);
        error(TWO + "l015310", 13);
        error(TWO + "l015361", 18);
        error(TWO + "l015310x", 13);
        // By then, the lender has less and the borrower more.
        error(TWO + "l015010l015", 23);
        error(TWO + "l015010l0149", 25);
        error(TWO + "l015010l014900", 20);
        allowed(TWO + "l015010l010200");
        allowed(TWO + "l011000l100500");
        error(TWO + "l011000l1011", 24);
        error("Bc10010c99000l010100l0", 21);
        // Both cells must be told ahead, a cell may be told behind.
        error("Bc10100c10000l020100c10000", 15);
        allowed("Bc10100c10000l010100c10000l020100");
        // The shuttle loses by the distance: 2 cells on, 10 of 10 lose 1.
        allowed("Bc10100c10000c10010l021000");
        error("Bc10100c10000c10020l021000", 19);
    }

    private static void promise4Counts() {
        String eight = "B" + "c10100".repeat(8);
        allowed(eight);
        error(eight + "c", 49);
        error(eight + "c10100", 49);
        error(eight + "l", 50);
        error(eight + "l8", 50);
        error(eight + "l7", 51);
        String twelve = "Bc99990c99000" + "l010100".repeat(12);
        allowed(twelve);
        error(twelve + "l", 97);
        error(twelve + "l010100", 97);
        allowed(twelve + "c10100");
        allowed("Bc99990c99000" + "l010100".repeat(11) + "c10100l200110");
    }

    private static void promise4ChangesNothing() {
        LendingCells x = new LendingCells();
        x.addCell(20, 10, 0);
        Runs.tell(x, TWO + "l010100");
        CHECK.is("4: error position", x.errorPosition(), LendingCells.NONE);
        CHECK.is("4: cells", x.about(0), 1);
        CHECK.is("4: charge", x.about(3), 10);
        CHECK.is("4: asked again", x.errorPosition(), LendingCells.NONE);
        CHECK.is("4: not an action", x.undo(), 0);
    }

    private static void promise5Load() {
        LendingCells x = new LendingCells();
        x.addCell(20, 10, 1);
        x.addCell(20, 20, 0);
        x.draw(4);
        x.pass(2);
        x.save(0);
        x.save(1);
        // 52 units go 1 cell far: 2 become heat.
        Runs.tell(x, TWO + "l015210c33113");
        CHECK.is("5: cells", x.load(), 3);
        long[] due = {3, 1, 0, 108, 110, 0, 2, 52, 0, 0};
        for (int what = 0; what <= 9; what++) {
            CHECK.is("5: about " + what, x.about(what), due[what]);
        }
        Runs.isCell(CHECK, "5: cell 0", x, 0, 99, 47, 0, 0, 0, 52, 0, 0);
        Runs.isCell(CHECK, "5: cell 1", x, 1, 50, 50, 0, 0, 52, 0, 6, 1);
        Runs.isCell(CHECK, "5: cell 2", x, 2, 33, 11, 3, 0, 0, 0, 0, 0);
        Runs.isLoan(CHECK, "5: loan", x, 0, 0, 1, 52, 10, 6, 50);
        CHECK.refuses("5: forgets states", ISE, x::undo);
        CHECK.refuses("5: empties slot 0", ISE, () -> x.restore(0));
        CHECK.refuses("5: empties slot 1", ISE, () -> x.restore(1));
        CHECK.is("5: keeps the text", x.append('x'), 27);
        CHECK.is("5: keeps the text", x.errorPosition(), 26);

        LendingCells late = Runs.loaded("Bc10100c10000l010150");
        late.pass(4);
        CHECK.is("5: bankrupt before", late.about(9), 2);
        CHECK.is("5: draws before", late.draw(1) + late.draws(1), 9);
        CHECK.is("5: the same again", late.load(), 2);
        Runs.isAbout(CHECK, "5: the same again", late, 2, 1, 0, 10, 10, 0, 0, 1, 0, 0);
        Runs.isCell(CHECK, "5: the same again", late, 1, 10, 1, 0, 0, 1, 0, 1, 1);
        Runs.tell(late, "B");
        CHECK.is("5: no cells", late.load(), 0);
        CHECK.is("5: no loans", late.about(1), 0);
        CHECK.is("5: nothing put in", late.about(4), 0);
    }

    private static void promise5Refused() {
        LendingCells x = new LendingCells();
        x.addCell(20, 10, 0);
        x.save(1);
        x.addCell(30, 30, 0);
        Runs.tell(x, TWO + "l01");
        CHECK.refuses("5: not a battery", ISE, x::load);
        CHECK.is("5: cells are kept", x.about(0), 2);
        CHECK.is("5: charge is kept", x.about(3), 40);
        CHECK.is("5: the states are kept", x.undo(), 1);
        CHECK.is("5: the slot is kept", x.restore(1), 10);
        CHECK.is("5: the text is kept", x.clearText(), 16);
    }
}
