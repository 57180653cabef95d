/** What the tests of the promises have in common. */
final class Runs {
    private Runs() {
    }

    /** Puts the text in the place of the object's text. */
    static void tell(LendingCells x, String text) {
        x.clearText();
        for (int k = 0; k < text.length(); k++) {
            x.append(text.charAt(k));
        }
    }

    static LendingCells told(String text) {
        LendingCells x = new LendingCells();
        tell(x, text);
        return x;
    }

    static LendingCells loaded(String text) {
        LendingCells x = told(text);
        x.load();
        return x;
    }

    static void isAbout(Check check, String what, LendingCells x, int... due) {
        for (int k = 0; k < due.length; k++) {
            check.is(what + ", about " + k, x.about(k), due[k]);
        }
    }

    static void isCell(Check check, String what, LendingCells x, int c, int... due) {
        for (int k = 0; k < due.length; k++) {
            check.is(what + ", cell " + c + " " + k, x.cell(c, k), due[k]);
        }
    }

    static void isLoan(Check check, String what, LendingCells x, int i, int... due) {
        for (int k = 0; k < due.length; k++) {
            check.is(what + ", loan " + i + " " + k, x.loan(i, k), due[k]);
        }
    }

    /** Everything that can be seen of the state. */
    static String state(LendingCells x) {
        StringBuilder seen = new StringBuilder();
        for (int k = 0; k <= 9; k++) {
            seen.append(x.about(k)).append(' ');
        }
        for (int c = 0; c < x.about(0); c++) {
            for (int k = 0; k <= 7; k++) {
                seen.append(k == 0 ? "| " : "").append(x.cell(c, k)).append(' ');
            }
        }
        for (int i = 0; i < x.about(1); i++) {
            for (int k = 0; k <= 5; k++) {
                seen.append(k == 0 ? "/ " : "").append(x.loan(i, k)).append(' ');
            }
        }
        return seen.toString();
    }
}
