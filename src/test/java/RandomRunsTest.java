import java.util.ArrayList;
import java.util.List;
import java.util.Random;

/** Random runs of calls, each answered by the class and by PlainModel alike. */
public final class RandomRunsTest {
    private static final int RUNS = 1500;
    /** The document promises nothing of later calls of an object. */
    private static final int MOST_CALLS = 512;
    /** So many calls does a look at the whole state take at most. */
    private static final int LOOK = 10 + 8 * 9 + 12 * 6;
    private static final int[] ODD = {Integer.MIN_VALUE, -1000, -1, 0, 8, 12, 51, 100, 101, 256, 100000, Integer.MAX_VALUE};

    private final Check check;
    private final Random random;
    private final LendingCells real = new LendingCells();
    private final PlainModel model = new PlainModel();
    private final List<String> calls = new ArrayList<>();
    /** Of different length, so that the look at its end sees the states in the midst of long runs too. */
    private final int length;
    private boolean failed;

    private RandomRunsTest(Check check, long seed) {
        this.check = check;
        this.random = new Random(seed);
        this.length = 1 + random.nextInt(MOST_CALLS - LOOK);
    }

    public static void main(String[] args) {
        Check check = new Check();
        for (int run = 0; run < RUNS; run++) {
            new RandomRunsTest(check, run).run(run);
        }
        check.end();
    }

    private void run(int run) {
        while (calls.size() < length && !failed) {
            one();
        }
        sameState();
        if (failed) {
            System.out.println("run " + run + ": " + String.join(" ", calls));
        }
    }

    private void both(String call, Check.Call asReal, Check.Call asModel) {
        if (calls.size() >= length || failed) {
            return;
        }
        calls.add(call);
        String got = Check.outcome(asReal);
        String due = Check.outcome(asModel);
        check.is(call, got, due);
        failed |= !got.equals(due);
    }

    private void sameState() {
        int[] account = new int[10];
        for (int what = 0; what <= 9; what++) {
            account[what] = real.about(what);
            quiet("about " + what, account[what], model.about(what));
        }
        quiet("account", account[4], account[3] + account[5] + account[6]);
        for (int c = 0; c < model.about(0) && !failed; c++) {
            for (int what = 0; what <= 7; what++) {
                quiet("cell " + c + " " + what, real.cell(c, what), model.cell(c, what));
            }
            quiet("order " + c, real.order(c), model.order(c));
        }
        for (int i = 0; i < model.about(1) && !failed; i++) {
            for (int what = 0; what <= 5; what++) {
                quiet("loan " + i + " " + what, real.loan(i, what), model.loan(i, what));
            }
        }
    }

    private void quiet(String what, int got, int due) {
        check.is(what, got, due);
        failed |= got != due;
    }

    /** A number that is mostly from least to most, at times beyond. */
    private int number(int least, int most) {
        int dice = random.nextInt(40);
        if (dice == 0) {
            return ODD[random.nextInt(ODD.length)];
        }
        if (dice == 1) {
            return random.nextBoolean() ? least - 1 : most + 1;
        }
        if (dice == 2) {
            return random.nextBoolean() ? least : most;
        }
        return least + random.nextInt(Math.max(1, most - least + 1));
    }

    private int cell() {
        return number(0, Math.max(0, model.about(0) - 1));
    }

    private int loan() {
        return number(0, Math.max(0, model.about(1) - 1));
    }

    private int units() {
        return random.nextInt(3) == 0 ? number(1, 99) : number(1, 12);
    }

    private int place() {
        return number(0, 8);
    }

    private void one() {
        int dice = random.nextInt(100);
        if (dice < 8 || dice < 40 && model.about(0) < 3) {
            addCell();
        } else if (dice < 22) {
            int a = cell();
            int b = cell();
            int n = units();
            int rate = number(0, 50);
            both("lend(" + a + "," + b + "," + n + "," + rate + ")",
                    () -> real.lend(a, b, n, rate), () -> model.lend(a, b, n, rate));
        } else if (dice < 30) {
            int i = loan();
            int m = units();
            both("repay(" + i + "," + m + ")", () -> real.repay(i, m), () -> model.repay(i, m));
        } else if (dice < 44) {
            smallAction();
        } else if (dice < 52) {
            int n = units();
            both("draw(" + n + ")", () -> real.draw(n), () -> model.draw(n));
        } else if (dice < 60) {
            slotsAndUndo();
        } else if (dice < 85) {
            question();
        } else if (dice < 92) {
            script();
        } else if (dice < 96) {
            long seed = random.nextLong() >> random.nextInt(64);
            int m = number(1, 99);
            both("simulate(" + seed + "," + m + ")", () -> real.simulate(seed, m), () -> model.simulate(seed, m));
        } else {
            text();
        }
    }

    private void addCell() {
        int capacity = number(10, 99);
        int charge = number(0, Math.max(0, Math.min(capacity, 99)));
        int leak = number(0, 3);
        both("addCell(" + capacity + "," + charge + "," + leak + ")",
                () -> real.addCell(capacity, charge, leak), () -> model.addCell(capacity, charge, leak));
    }

    private void smallAction() {
        int c = cell();
        int leak = number(0, 3);
        int n = units();
        int rounds = random.nextInt(5) > 0 ? number(1, 3) : number(1, 50);
        switch (random.nextInt(4)) {
            case 0 -> both("setLeak(" + c + "," + leak + ")", () -> real.setLeak(c, leak), () -> model.setLeak(c, leak));
            case 1, 2 -> both("charge(" + n + ")", () -> real.charge(n), () -> model.charge(n));
            default -> both("pass(" + rounds + ")", () -> real.pass(rounds), () -> model.pass(rounds));
        }
    }

    private void slotsAndUndo() {
        int slot = number(0, 1);
        switch (random.nextInt(10)) {
            case 0, 1, 2 -> both("save(" + slot + ")", () -> real.save(slot), () -> model.save(slot));
            case 3, 4 -> both("restore(" + slot + ")", () -> real.restore(slot), () -> model.restore(slot));
            default -> both("undo()", real::undo, model::undo);
        }
        if (random.nextInt(20) == 0) {
            for (int k = 0; k < 15; k++) {
                both("undo()", real::undo, model::undo);
            }
        }
    }

    private void question() {
        int c = cell();
        int i = loan();
        int n = units();
        int what = number(0, 9);
        int rounds = number(1, 50);
        int place = place();
        switch (random.nextInt(9)) {
            case 0 -> both("about(" + what + ")", () -> real.about(what), () -> model.about(what));
            case 1 -> both("cell(" + c + "," + what + ")", () -> real.cell(c, what), () -> model.cell(c, what));
            case 2 -> both("loan(" + i + "," + what + ")", () -> real.loan(i, what), () -> model.loan(i, what));
            case 3 -> both("order(" + place + ")", () -> real.order(place), () -> model.order(place));
            case 4 -> both("holds(" + c + ")", () -> real.holds(c), () -> model.holds(c));
            case 5 -> both("draws(" + n + ")", () -> real.draws(n), () -> model.draws(n));
            case 6 -> both("most()", real::most, model::most);
            case 7 -> both("bestLender(" + c + "," + n + ")", () -> real.bestLender(c, n), () -> model.bestLender(c, n));
            default -> both("costs(" + i + "," + rounds + ")", () -> real.costs(i, rounds), () -> model.costs(i, rounds));
        }
    }

    private void script() {
        int n = number(1, 3);
        long script = 0;
        for (int k = 0; k < Math.max(1, Math.min(4, n)); k++) {
            script = script * 100000 + group();
        }
        if (random.nextInt(15) == 0) {
            script = random.nextLong() >> random.nextInt(64);
        }
        long s = script;
        both("runScript(" + n + "," + s + ")", () -> real.runScript(n, s), () -> model.runScript(n, s));
    }

    private int group() {
        int first = random.nextInt(model.about(0) + 1);
        int second = random.nextInt(model.about(0) + 1);
        int last = random.nextInt(6) == 0 ? random.nextInt(100) : random.nextInt(12);
        int zeros = random.nextInt(12) == 0 ? random.nextInt(10) * 100 + random.nextInt(10) * 1000 : 0;
        switch (random.nextInt(10)) {
            case 0: return random.nextInt(100000);
            case 1: return 10000 + first * 1000 + second * 100 + last;
            case 2: return 20000 + random.nextInt(model.about(1) + 1) * 100 + last;
            case 3: return 30000 + last + zeros;
            case 4: return 40000 + last + zeros;
            case 5: return 50000 + last + zeros;
            case 6: return 60000 + first * 1000 + random.nextInt(100) + zeros % 1000;
            case 7: return 70000 + first * 1000 + random.nextInt(4) + zeros % 1000;
            case 8: return 80000 + random.nextInt(2) * random.nextInt(1000) + random.nextInt(60);
            default: return 90000 + random.nextInt(6) + zeros;
        }
    }

    private void text() {
        both("clearText()", real::clearText, model::clearText);
        StringBuilder told = new StringBuilder(random.nextInt(50) == 0 ? "" : "B");
        int cells = 0;
        int parts = random.nextInt(22);
        for (int k = 0; k < parts; k++) {
            if (cells < 2 || random.nextInt(5) < 2 && (cells < 8 || random.nextInt(6) == 0)) {
                int capacity = 10 + random.nextInt(90);
                told.append(String.format("c%02d%02d%d", capacity, random.nextInt(capacity + 1), random.nextInt(4)));
                cells++;
            } else {
                int lender = random.nextInt(Math.min(10, cells));
                int borrower = (lender + 1 + random.nextInt(Math.max(1, cells - 1))) % Math.min(10, cells);
                int size = 1 + (random.nextInt(8) == 0 ? random.nextInt(99) : random.nextInt(5));
                told.append(String.format("l%d%d%02d%02d", lender, borrower, size, random.nextInt(51)));
            }
        }
        if (random.nextInt(3) == 0) {
            int place = random.nextInt(told.length() + 1);
            if (random.nextBoolean() && place < told.length()) {
                told.setCharAt(place, "0123456789Bcl /:".charAt(random.nextInt(16)));
            } else {
                told.setLength(place);
            }
        }
        for (int k = 0; k < told.length(); k++) {
            int c = random.nextInt(3000) == 0 ? number(0, 255) : told.charAt(k);
            both("append(" + c + ")", () -> real.append(c), () -> model.append(c));
            if (random.nextInt(15) == 0) {
                both("errorPosition()", real::errorPosition, model::errorPosition);
            }
        }
        both("errorPosition()", real::errorPosition, model::errorPosition);
        both("load()", real::load, model::load);
    }
}
