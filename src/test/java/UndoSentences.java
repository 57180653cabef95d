import java.util.ArrayList;
import java.util.List;
import java.util.function.Supplier;

/** The terms on actions and undo, on exceptions, and on the constant; and which calls change nothing. */
final class UndoSentences extends Sentences {
    UndoSentences(Check check, Document document) {
        super(check, document);
    }

    @Override
    void test() {
        terms();
        theState();
        eachCallIsAnAction();
        rememberedBeforeEachAction();
        atMost14();
        notActions();
        doesNotExist();
        outOfRange();
        firstNamedFirst();
        refusedChangesNothing();
        theConstant();
        questionsChangeNothing();
    }

    /** A call, on an object and on one that is like it. */
    interface CallOn {
        long answer(LendingCells x);
    }

    /** Everything that can be seen of an object, which is used up by it. */
    static String everything(LendingCells x) {
        List<String> seen = new ArrayList<>();
        seen.add(Runs.state(x));
        String left = Check.outcome(x::undo);
        while (!left.startsWith("throws")) {
            seen.add(left + " " + Runs.state(x));
            left = Check.outcome(x::undo);
        }
        seen.add(left);
        for (int slot = 0; slot < 2; slot++) {
            int s = slot;
            String found = Check.outcome(() -> x.restore(s));
            seen.add(found.startsWith("throws") ? found : found + " " + Runs.state(x));
        }
        seen.add(x.errorPosition() + " " + x.clearText());
        return String.join("\n", seen);
    }

    /** A text that is no battery, a saved slot, remembered states, a loan and a bankrupt cell. */
    private static LendingCells busy() {
        LendingCells x = Runs.loaded("Bc99990c10003c50003l010150c99800l020150");
        x.save(1);
        x.pass(2);
        x.charge(4);
        x.lend(0, 2, 9, 10);
        x.setLeak(2, 2);
        x.draw(1);
        x.pass(2);
        x.append('x');
        return x;
    }

    private static LendingCells full() {
        LendingCells x = Runs.loaded("B" + "c99990".repeat(7) + "c50000" + "l070100".repeat(10));
        x.lend(0, 7, 1, 10);
        x.lend(1, 7, 1, 10);
        x.append('x');
        return x;
    }

    private static LendingCells undone() {
        LendingCells x = Runs.loaded("Bc99990c99000");
        x.charge(9);
        x.undo();
        return x;
    }

    private void theState() {
        says("The methods in the section \"actions\" change the state, which consists of everything but the text and the "
                + "save slots.");
        LendingCells x = new LendingCells();
        List<String> seen = new ArrayList<>();
        Check.Call[] actions = {
            () -> x.addCell(50, 40, 1), () -> x.addCell(30, 0, 0), () -> x.lend(0, 1, 20, 50),
            () -> x.repay(0, 5), () -> x.setLeak(0, 3), () -> x.charge(50), () -> x.draw(30), () -> x.pass(9)};
        seen.add(Runs.state(x));
        for (int k = 0; k < actions.length; k++) {
            actions[k].answer();
            seen.add(Runs.state(x));
            is("action " + k + " changes the state", seen.get(k + 1).equals(seen.get(k)) ? 1 : 0, 0);
        }
        is("a bankrupt one", x.about(9), 2);
        x.save(0);
        x.append('B');
        for (int k = actions.length - 1; k >= 0; k--) {
            x.undo();
            is("the state before action " + k, Runs.state(x), seen.get(k));
        }
        is("the text is none of it", x.clearText(), 1);
        x.restore(0);
        is("the slots are none of it", x.about(9), 2);
    }

    private void eachCallIsAnAction() {
        says("Each call of one of them that does not throw an exception is an action, also if nothing becomes different "
                + "(undo is none).");
        LendingCells x = Runs.loaded("B");
        x.charge(5);
        x.charge(5);
        is("no cells to charge", x.undo(), 1);
        LendingCells y = Runs.loaded("Bc10102");
        y.setLeak(0, 2);
        refuses("no action", y, IAE, () -> y.setLeak(0, 4));
        refuses("no action", y, ISE, () -> y.draw(11));
        is("the same leak, without the refused ones", y.undo(), 0);
        refuses("undo is none", y, ISE, y::undo);
        y.charge(1);
        y.charge(1);
        is("two", y.undo(), 1);
        is("undo is none", y.undo(), 0);
        refuses("undo is none", y, ISE, y::undo);
    }

    private void rememberedBeforeEachAction() {
        says("Before each action, the state is remembered.");
        LendingCells x = new LendingCells();
        x.addCell(50, 0, 0);
        for (int n = 1; n <= 9; n++) {
            x.charge(n);
        }
        int charge = 45;
        for (int n = 9; n >= 1; n--) {
            is("left", x.undo(), n);
            charge -= n;
            is("before " + n, x.about(3), charge);
        }
        is("before the first one", x.undo() + x.about(0), 0);
        x.pass(50);
        x.undo();
        is("50 rounds are one action", x.about(2), 0);
    }

    private void atMost14() {
        says("At most 14 states are remembered; when one more is remembered, the oldest one is forgotten.");
        for (int actions = 13; actions <= 44; actions++) {
            LendingCells x = Runs.loaded("Bc99000");
            for (int k = 0; k < actions; k++) {
                x.charge(1);
            }
            int remembered = Math.min(actions, 14);
            for (int k = remembered - 1; k >= 0; k--) {
                is("left of " + actions, x.undo(), k);
                is("charge of " + actions, x.about(3), actions - remembered + k);
            }
            refuses("the older ones of " + actions, x, ISE, x::undo);
        }
        // Back and forth over the end of the row: 20 on, 9 back, 9 on.
        LendingCells y = Runs.loaded("Bc99000");
        for (int k = 0; k < 20; k++) {
            y.charge(1);
        }
        for (int k = 0; k < 9; k++) {
            y.undo();
        }
        for (int k = 0; k < 9; k++) {
            y.charge(2);
        }
        is("left", y.undo(), 13);
        for (int k = 12; k >= 6; k--) {
            is("left", y.undo(), k);
            is("charge", y.about(3), 11 + 2 * (k - 5));
        }
        y.undo();
        is("charge", y.about(3), 11);
        y.undo();
        is("charge", y.about(3), 10);
    }

    private void notActions() {
        says("load and restore are not actions.");
        LendingCells x = Runs.loaded("Bc10100");
        refuses("load", x, ISE, x::undo);
        x.save(0);
        x.restore(0);
        refuses("restore", x, ISE, x::undo);
    }

    private void doesNotExist() {
        says("IndexOutOfBoundsException means that a cell or a loan does not exist, or that a save slot is not 0 or 1.");
        for (int c : outside(0, 1)) {
            LendingCells x = Runs.loaded("Bc99990c99000l010100");
            String what = "cell " + c;
            refuses(what, x, IOOBE, () -> x.cell(c, 0));
            refuses(what, x, IOOBE, () -> x.lend(c, 0, 1, 0));
            refuses(what, x, IOOBE, () -> x.lend(0, c, 1, 0));
            refuses(what, x, IOOBE, () -> x.setLeak(c, 0));
            refuses(what, x, IOOBE, () -> x.holds(c));
            refuses(what, x, IOOBE, () -> x.bestLender(c, 1));
            refuses("slot " + c, x, IOOBE, () -> x.save(c));
            refuses("slot " + c, x, IOOBE, () -> x.restore(c));
        }
        for (int i : outside(0, 0)) {
            LendingCells x = Runs.loaded("Bc99990c99000l010100");
            String what = "loan " + i;
            refuses(what, x, IOOBE, () -> x.loan(i, 0));
            refuses(what, x, IOOBE, () -> x.repay(i, 1));
            refuses(what, x, IOOBE, () -> x.costs(i, 1));
        }
        LendingCells y = fallen();
        is("a bankrupt one exists", y.cell(1, 7) * 1000 + y.setLeak(1, 1) * 100 + y.holds(1), 3300);
    }

    private void outOfRange() {
        says("IllegalArgumentException means that another argument is out of its range. IllegalStateException means what "
                + "the method says.");
        for (int n : outside(1, 99)) {
            LendingCells x = Runs.loaded("Bc99990c99000l010100");
            String what = "units " + n;
            refuses(what, x, IAE, () -> x.lend(0, 1, n, 0));
            refuses(what, x, IAE, () -> x.repay(0, n));
            refuses(what, x, IAE, () -> x.charge(n));
            refuses(what, x, IAE, () -> x.draw(n));
            refuses(what, x, IAE, () -> x.draws(n));
            refuses(what, x, IAE, () -> x.bestLender(0, n));
            refuses("rounds " + n, x, IAE, () -> x.pass(n));
            refuses("rounds " + n, x, IAE, () -> x.costs(0, n));
            refuses("rounds " + n, x, IAE, () -> x.simulate(0, n));
        }
        LendingCells y = Runs.loaded("Bc99990c99000l010100");
        refuses("rounds 51", y, IAE, () -> y.pass(51));
        refuses("rounds 51", y, IAE, () -> y.costs(0, 51));
        LendingCells empty = new LendingCells();
        refuses("as the method says", empty, ISE, empty::load);
        refuses("as the method says", y, ISE, () -> y.lend(0, 1, 99, 0));
        refuses("as the method says", y, ISE, y::undo);
    }

    private void refusesOnFull(String what, Class<? extends RuntimeException> due, CallOn call) {
        LendingCells x = full();
        refuses(what, x, due, () -> call.answer(x));
    }

    private void firstNamedFirst() {
        says("If several exceptions apply to a call, the one that its description names first is thrown.");
        refusesOnFull("append: out of range, and full", IAE, x -> x.append(256));
        refusesOnFull("cell: no cell, and no number", IOOBE, x -> x.cell(8, 8));
        refusesOnFull("loan: no loan, and no number", IOOBE, x -> x.loan(12, 6));
        refusesOnFull("addCell: out of range, and eight cells", IAE, x -> x.addCell(9, 0, 0));
        refusesOnFull("lend: no cell, the same, out of range", IOOBE, x -> x.lend(8, 8, 0, 51));
        refusesOnFull("lend: no borrower, twelve loans", IOOBE, x -> x.lend(0, -1, 1, 0));
        refusesOnFull("lend: no lender, out of range", IOOBE, x -> x.lend(8, 0, 100, 0));
        refusesOnFull("lend: the same, and twelve loans", IAE, x -> x.lend(0, 0, 1, 0));
        refusesOnFull("lend: n out of range, and twelve loans", IAE, x -> x.lend(0, 1, 0, 0));
        refusesOnFull("lend: the rate out of range, and twelve loans", IAE, x -> x.lend(0, 1, 1, 51));
        refusesOnFull("repay: no loan, and out of range", IOOBE, x -> x.repay(12, 0));
        refusesOnFull("repay: out of range, and less is owed", IAE, x -> x.repay(0, 100));
        refusesOnFull("setLeak: no cell, and out of range", IOOBE, x -> x.setLeak(8, 4));
        refusesOnFull("bestLender: no cell, and out of range", IOOBE, x -> x.bestLender(8, 0));
        refusesOnFull("costs: no loan, and out of range", IOOBE, x -> x.costs(12, 0));
        refusesOnFull("restore: no slot, and nothing saved", IOOBE, x -> x.restore(2));
        LendingCells none = new LendingCells();
        refuses("draw: out of range, and no cells", none, IAE, () -> none.draw(0));
        refuses("draw: out of range, and no cells", none, IAE, () -> none.draw(100));
        LendingCells y = fallen();
        refuses("lend: the same, and bankrupt", y, IAE, () -> y.lend(1, 1, 1, 0));
        refuses("lend: out of range, and bankrupt", y, IAE, () -> y.lend(0, 1, 1, -1));
    }

    private void changesNothing(String what, Supplier<LendingCells> made, boolean refused, CallOn call) {
        LendingCells x = made.get();
        String outcome = Check.outcome(() -> call.answer(x));
        is(what + " is refused: " + outcome, outcome.startsWith("throws") ? 1 : 0, refused ? 1 : 0);
        is(what + " changes nothing", everything(x), everything(made.get()));
    }

    private void refusedChangesNothing() {
        says("A call that throws an exception changes nothing.");
        CallOn[] refused = {
            x -> x.append(-1), x -> x.append(256), LendingCells::load, x -> x.about(10), x -> x.cell(8, 0),
            x -> x.cell(0, 8), x -> x.loan(12, 0), x -> x.loan(0, 6), x -> x.order(-1), x -> x.addCell(9, 0, 0),
            x -> x.addCell(10, 11, 0), x -> x.addCell(10, 0, 4), x -> x.lend(8, 0, 1, 0), x -> x.lend(0, 0, 1, 0),
            x -> x.lend(0, 1, 100, 0), x -> x.lend(0, 1, 1, 51), x -> x.lend(0, 1, 99, 0), x -> x.repay(12, 1),
            x -> x.repay(0, 0), x -> x.repay(0, 99), x -> x.setLeak(8, 0), x -> x.setLeak(0, 4), x -> x.charge(0),
            x -> x.charge(100), x -> x.draw(0), x -> x.draw(99), x -> x.pass(0), x -> x.pass(51), x -> x.holds(8),
            x -> x.draws(0), x -> x.bestLender(8, 1), x -> x.bestLender(0, 0), x -> x.costs(12, 1),
            x -> x.costs(0, 51), x -> x.runScript(0, 0), x -> x.runScript(1, 100000), x -> x.simulate(1, 0),
            x -> x.simulate(1, 100), x -> x.save(2), x -> x.restore(2), x -> x.restore(0)};
        for (int k = 0; k < refused.length; k++) {
            changesNothing("call " + k + " on a busy one", UndoSentences::busy, true, refused[k]);
            changesNothing("call " + k + " on a full one", UndoSentences::full, true, refused[k]);
        }
        changesNothing("append to 120", UndoSentences::full, true, x -> x.append('0'));
        changesNothing("a ninth cell", UndoSentences::full, true, x -> x.addCell(10, 0, 0));
        changesNothing("a thirteenth loan", UndoSentences::full, true, x -> x.lend(0, 7, 1, 0));
        changesNothing("no more to undo", UndoSentences::undone, true, LendingCells::undo);
        // The first of two loans is possible.
        changesNothing("half a drawing", () -> Runs.loaded("Bc99000c99080c99000"), true, x -> x.draw(4));
    }

    private void theConstant() {
        says("NONE = -9: There is no such result.");
        is("the constant", LendingCells.NONE, -9);
        LendingCells x = Runs.loaded("Bc10100");
        is("errorPosition", x.errorPosition(), -9);
        is("order", x.order(1), -9);
        is("holds", x.holds(0), -9);
        is("bestLender", x.bestLender(0, 1), -9);
        is("runScript", x.runScript(1, 30001), -9);
    }

    private void questionsChangeNothing() {
        says("what would be; these and all following methods up to the save slots change nothing.");
        CallOn[] questions = {
            x -> x.holds(0), x -> x.holds(1), x -> x.holds(2), x -> x.draws(1), x -> x.draws(20),
            LendingCells::most, x -> x.bestLender(2, 5), x -> x.bestLender(1, 99), x -> x.costs(0, 50),
            x -> x.runScript(3, 30010_40002_50050L), x -> x.runScript(3, 10101_20001_40099L),
            x -> x.simulate(0, 99), x -> x.simulate(-1, 1), LendingCells::errorPosition,
            x -> x.about(3), x -> x.cell(0, 1), x -> x.loan(0, 2), x -> x.order(0)};
        for (int k = 0; k < questions.length; k++) {
            changesNothing("question " + k + " to a busy one", UndoSentences::busy, false, questions[k]);
            changesNothing("question " + k + " to a full one", UndoSentences::full, false, questions[k]);
        }
    }
}
