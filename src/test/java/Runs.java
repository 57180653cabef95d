/** What the tests of the promises have in common. */
final class Runs {
    private Runs() {
    }

    /** Puts the text in the place of the object's text. */
    static void tell(LendingCells x, String text) {
        x.clearText();
        for (int k = 0; k < text.length(); k++) {
            x.append(text.charAt(k));
        }
    }

    static LendingCells told(String text) {
        LendingCells x = new LendingCells();
        tell(x, text);
        return x;
    }

    static LendingCells loaded(String text) {
        LendingCells x = told(text);
        x.load();
        return x;
    }

    static void isAbout(Check check, String what, LendingCells x, int... due) {
        for (int k = 0; k < due.length; k++) {
            check.is(what + ", about " + k, x.about(k), due[k]);
        }
    }

    static void isCell(Check check, String what, LendingCells x, int c, int... due) {
        for (int k = 0; k < due.length; k++) {
            check.is(what + ", cell " + c + " " + k, x.cell(c, k), due[k]);
        }
    }

    static void isLoan(Check check, String what, LendingCells x, int i, int... due) {
        for (int k = 0; k < due.length; k++) {
            check.is(what + ", loan " + i + " " + k, x.loan(i, k), due[k]);
        }
    }

    /** All numbers of the state, without those that come from the others; it takes few calls of the object. */
    static String state(LendingCells x) {
        StringBuilder seen = new StringBuilder();
        for (int what = 0; what <= 9; what++) {
            seen.append(x.about(what)).append(' ');
        }
        int cells = x.about(0);
        for (int c = 0; c < cells; c++) {
            seen.append("| ");
            for (int what = 0; what <= 3; what++) {
                seen.append(x.cell(c, what)).append(' ');
            }
        }
        int loans = x.about(1);
        for (int i = 0; i < loans; i++) {
            seen.append("/ ");
            for (int what : new int[] {0, 1, 2, 3, 5}) {
                seen.append(x.loan(i, what)).append(' ');
            }
        }
        return seen.toString();
    }
}
