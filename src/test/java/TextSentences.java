/** The terms on the text. */
final class TextSentences extends Sentences {
    /** Only the first one has charge; the second one has room for 50. */
    private static final String TWO = "Bc99990c50000";

    TextSentences(Check check, Document document) {
        super(check, document);
    }

    @Override
    void test() {
        terms();
        atMost120();
        beginsWithB();
        cellParts();
        loanParts();
        tooMuchForTheBorrower();
        whereLMayStand();
        lenderWithoutCharge();
        noBlanks();
        leftToRight();
        firstThatIsNotAllowed();
        endsTooSoon();
    }

    /** The text is no battery, with this error position; both calls say so. */
    private void error(String text, int due) {
        LendingCells x = Runs.told(text);
        is(text, x.errorPosition(), due);
        refuses(text, x, ISE, x::load);
    }

    /** Each of the characters is not allowed behind the text. */
    private void errors(String text, String characters) {
        for (char c : characters.toCharArray()) {
            error(text + c, text.length());
        }
    }

    private void allowed(String text) {
        LendingCells x = Runs.told(text);
        is(text, x.errorPosition(), NONE);
        is(text + ", loaded", x.load(), x.about(0));
    }

    private void atMost120() {
        says("The object has a text buffer of at most 120 characters.");
        // 49 for eight cells and 70 for ten loans are 119.
        String most = "B" + "c99990".repeat(7) + "c50000" + "l070100".repeat(10);
        LendingCells x = Runs.told(most);
        is("119 are a battery", x.load(), 8);
        is("119 are a battery", x.about(1), 10);
        is("the 120th", x.append('l'), 120);
        is("the 120th is read", x.errorPosition(), 120);
        refuses("the 121st", x, ISE, () -> x.append('0'));
        is("is not there", x.errorPosition(), 120);
        is("is not there", x.clearText(), 120);
        LendingCells y = Runs.told(most + "x");
        is("the 120th is read", y.errorPosition(), 119);
    }

    private void beginsWithB() {
        says("A battery is the letter B, and then any number of parts, in any order:");
        allowed("B");
        errors("", "bcl0A C\0" + (char) 255);
        errors("B", "BbCL0d ");
        allowed("Bc10000");
        allowed("Bc10000c10100l100100");
        allowed("Bc10000c10100l100100c10000l010100c10100l300200");
        error("Bc10000B", 7);
        errors("Bc10000c10100l100100", "B0x");
    }

    private void cellParts() {
        says("the letter c, two digits for the capacity of a cell (10 to 99), two for its charge (00 to its capacity) "
                + "and one for its leak (0 to 3), at most 8 of these;");
        for (int capacity = 0; capacity <= 99; capacity++) {
            String two = (capacity < 10 ? "0" : "") + capacity;
            if (capacity < 10) {
                error("Bc" + two, 2);
                continue;
            }
            allowed("Bc" + two + two + "0");
            allowed("Bc" + two + "003");
            if (capacity < 99) {
                // The tens of the next number are not allowed, or its ones.
                int more = capacity + 1;
                error("Bc" + two + more, capacity % 10 == 9 ? 4 : 5);
            }
        }
        errors("Bc", "0/:cl ");
        errors("Bc1", "/:c ");
        errors("Bc99", "/:c ");
        errors("Bc4", "x");
        errors("Bc37", "456789/:");
        errors("Bc370", "/:");
        errors("Bc373", "89");
        errors("Bc3720", "456789/:cl ");
        for (char leak = '0'; leak <= '3'; leak++) {
            LendingCells x = Runs.loaded("Bc3720" + leak);
            cell("told", x, 0, 37, 20, leak - '0', 0);
        }
        String eight = "B" + "c10100".repeat(8);
        allowed(eight);
        errors(eight, "c");
        error(eight + "c10000", 49);
    }

    private void loanParts() {
        says("the letter l, a digit for a lender, one for another cell, the borrower, both told ahead, two digits for the "
                + "size (01 to what the lender has in charge by then) and two for the rate (00 to 50): a loan is made; "
                + "at most 12 of these.");
        allowed(TWO + "l010100");
        allowed(TWO + "l010150");
        errors(TWO + "l", "23456789/:");
        errors(TWO + "l0", "023456789/:c");
        errors(TWO + "l01", "/:l ");
        errors(TWO + "l010", "0/:");
        errors(TWO + "l0101", "6789/:");
        errors(TWO + "l01015", "123456789/:");
        errors(TWO + "l01014", "/:");
        allowed(TWO + "l010149");
        errors(TWO + "c77770l2", "23456789/:");
        allowed(TWO + "c77770l210100l020100l200100");
        // What the lender has: 37.
        String some = "Bc37370c99000";
        errors(some + "l01", "456789");
        errors(some + "l013", "89");
        errors(some + "l010", "0");
        allowed(some + "l013700");
        allowed(some + "l012900");
        allowed(some + "l010100");
        // By then: 5 are left, the borrower has 31.
        String then = some + "l013200";
        errors(then + "l01", "1");
        errors(then + "l010", "06");
        allowed(then + "l010500");
        errors(then + "l103", "2");
        allowed(then + "l103100");
        // A cell that was told behind may lend from there on.
        error("Bc10100c10000l020100c10000", 15);
        errors("Bc10100c10000l", "2");
        allowed("Bc10100c10000l010100c10000l020100");
        LendingCells x = Runs.loaded("Bc50000c50000c50500l200150l202049");
        loan("made", x, 0, 2, 0, 1, 50, 1, 1);
        loan("made", x, 1, 2, 0, 20, 49, 10, 18);
        about("made", x, 3, 2, 0, 48, 50, 0, 2, 21);
        allowed(TWELVE);
        allowed(TWELVE + "c10000");
        errors(TWELVE, "l");
        errors(TWELVE + "c10000", "l");
        error(TWELVE + "l010100", 97);
    }

    private void tooMuchForTheBorrower() {
        says("If what arrives is too much for the borrower, the error position is the index of the l (this is seen behind "
                + "its last digit).");
        // Of 52, 50 arrive, of 53, 51 do.
        allowed(TWO + "l015200");
        error(TWO + "l015300", 13);
        error(TWO + "l015300c10000", 13);
        error(TWO + "l01530", 19);
        errors(TWO + "l0153", "6");
        errors(TWO + "l01535", "1");
        // Full already: one more is too much.
        error(TWO + "l015200l010100", 20);
        allowed(TWO + "l015200l100100l010100");
        // 2 cells on, 10 of 10 lose 1.
        allowed("Bc10100c10000c10010l021000");
        error("Bc10100c10000c10020l021000", 19);
    }

    private void whereLMayStand() {
        says("An l may stand wherever two cells were told ahead;");
        errors("B", "l");
        errors("Bc10100", "l");
        error("Bc10100c10100l", 14);
        error("Bc10000c10000l", 14);
        error("B" + "c10000".repeat(8) + "l", 50);
        error("Bc10000c10000c10000l", 20);
    }

    private void lenderWithoutCharge() {
        says("the digit of a lender without charge is not allowed.");
        errors("Bc10000c10000l", "01");
        errors("Bc10010c10000l", "1");
        allowed("Bc10010c10000l010100");
        // It has lent all that it had.
        errors("Bc10010c10000l010100l", "0");
        allowed("Bc10010c10000l010100l100100");
    }

    private void noBlanks() {
        says("There are no blanks.");
        String whole = "Bc10100c10000l010100";
        allowed(whole);
        for (int k = 0; k <= whole.length(); k++) {
            error(whole.substring(0, k) + " " + whole.substring(k), k);
        }
    }

    private void leftToRight() {
        says("The text is read from left to right.");
        error("Bc09100c10115x", 2);
        error("Bc10115x", 5);
        error("Bc10100x c09", 7);
        error(TWO + "l015300x", 13);
        error(TWO + "xl015300", 13);
        error(TWO + "c99994l015300", 18);
    }

    private void firstThatIsNotAllowed() {
        says("The error position is the index of the first character that these rules do not allow at its place (a digit "
                + "is not allowed if no number that is allowed begins with it and those before it);");
        error("x", 0);
        error("Bx", 1);
        // The tens are allowed where only some of the ones are.
        error("Bc1020", 4);
        error("Bc1011", 5);
        error("Bc1010x", 6);
        error("Bc1010" + (char) ('3' + 1), 6);
        error(TWO + "l010100x", 20);
        error(TWO + "l0100", 17);
        error(TWO + "l01016", 18);
        error(TWO + "l010151", 19);
        error(TWO + (char) 255, 13);
        error(TWO + (char) 0, 13);
        // Digits of other writings are none: 178 is a raised 2.
        error("Bc" + (char) 178, 2);
    }

    private void endsTooSoon() {
        says("if the text ends too soon, it is the length of the text.");
        error("", 0);
        String cells = "Bc10100c55553";
        for (int k = 2; k < cells.length(); k++) {
            if (k != 7) {
                error(cells.substring(0, k), k);
            }
        }
        allowed(cells);
        allowed(cells.substring(0, 7));
        allowed(cells.substring(0, 1));
        String loan = TWO + "l014949";
        for (int k = 14; k < 20; k++) {
            error(loan.substring(0, k), k);
        }
        allowed(loan);
    }
}
