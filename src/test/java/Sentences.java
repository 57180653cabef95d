/** Some sentences of the document, each quoted by the test that it has of its own. */
abstract class Sentences {
    static final Class<IllegalArgumentException> IAE = IllegalArgumentException.class;
    static final Class<IllegalStateException> ISE = IllegalStateException.class;
    static final Class<IndexOutOfBoundsException> IOOBE = IndexOutOfBoundsException.class;
    static final int NONE = LendingCells.NONE;
    /** Two cells, the first one with charge, and all the loans that there can be. */
    static final String TWELVE = "Bc99990c99000" + "l010100".repeat(12);
    /** When 3 rounds have gone by, cell 1 is bankrupt, cell 0 has 9 of 99 and cell 2 has 20 of 50. */
    static final String FALLING = "Bc99100c99003l010150c50200";

    private final Check check;
    private final Document document;
    private String part = "";
    private String label = "";

    Sentences(Check check, Document document) {
        this.check = check;
        this.document = document;
    }

    abstract void test();

    final void terms() {
        part = "Terms";
    }

    final void promise(int number) {
        part = "Promise " + number;
    }

    /** What follows tests this sentence. */
    final void says(String sentence) {
        label = part + ", \"" + sentence + "\"";
        check.is(label + " stands in the document, and is tested once", document.says(part, sentence), true);
    }

    final void is(String what, long got, long due) {
        check.is(label + ": " + what, got, due);
    }

    final void is(String what, String got, String due) {
        check.is(label + ": " + what, got, due);
    }

    final void about(String what, LendingCells x, int... due) {
        Runs.isAbout(check, label + ": " + what, x, due);
    }

    final void cell(String what, LendingCells x, int c, int... due) {
        Runs.isCell(check, label + ": " + what, x, c, due);
    }

    final void loan(String what, LendingCells x, int i, int... due) {
        Runs.isLoan(check, label + ": " + what, x, i, due);
    }

    /** The call is refused with an exception of exactly this class, and the state is as before. */
    final void refuses(String what, LendingCells x, Class<? extends RuntimeException> due, Check.Call call) {
        String before = Runs.state(x);
        check.refuses(label + ": " + what, due, call);
        is(what + ", and nothing is different", Runs.state(x), before);
    }

    /** The nearest numbers below and above a range, and the farthest ones. */
    static int[] outside(int least, int most) {
        return new int[] {least - 1, most + 1, Integer.MIN_VALUE, Integer.MAX_VALUE};
    }

    static LendingCells fallen() {
        LendingCells x = Runs.loaded(FALLING);
        x.pass(3);
        return x;
    }

    /** Eight cells that each owe 1 to the one before: all become bankrupt in the third round. */
    static LendingCells ring() {
        LendingCells x = new LendingCells();
        for (int c = 0; c < 8; c++) {
            x.addCell(10, 1, 3);
        }
        for (int c = 0; c < 8; c++) {
            x.lend(c, (c + 1) % 8, 1, 50);
        }
        return x;
    }
}
