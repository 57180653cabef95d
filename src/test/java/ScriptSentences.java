import java.math.BigInteger;
import java.util.ArrayList;
import java.util.List;

/** Promises 23 to 26: scripts, simulations and save slots. */
final class ScriptSentences extends Sentences {
    /** Cell 0 has 40 of 50, cell 1 owes 10 and has 10 of 20, cell 2 has 5 of 10. */
    private static final String THREE = "Bc50500c20000c10050l011010";

    ScriptSentences(Check check, Document document) {
        super(check, document);
    }

    @Override
    void test() {
        promise(23);
        copyOfTheState();
        groups();
        commands();
        questions();
        failing();
        otherGroups();
        scriptArguments();
        promise(24);
        copyIsSimulated();
        random();
        whatIsDone();
        simulated();
        promise(25);
        save();
        promise(26);
        restore();
    }

    private void succeeds(LendingCells x, int group) {
        is("group " + group, x.runScript(1, group), NONE);
    }

    private void fails(LendingCells x, int group) {
        is("group " + group, x.runScript(1, group), 0);
    }

    private static LendingCells three() {
        return Runs.loaded(THREE);
    }

    private void copyOfTheState() {
        says("Runs a script on a copy of the state.");
        LendingCells x = three();
        String before = Runs.state(x);
        is("three actions", x.runScript(3, 30010_40005_50050L), NONE);
        is("the state is the same", Runs.state(x), before);
        is("two actions and a fault", x.runScript(3, 10101_20001_40099L), 2);
        is("the state is the same", Runs.state(x), before);
        refuses("no actions", x, ISE, x::undo);
        is("each on what was before", x.runScript(3, 10110_60030_61020L), NONE);
        is("each on what was before", x.runScript(3, 10110_60031_61020L), 1);
        is("and not on the last script's", x.runScript(1, 60040), NONE);
    }

    private void groups() {
        says("A script has 1 to 3 commands; each is a group of five decimal digits d1 to d5, and the first command is the "
                + "highest group of the number (with zeros before it, if it has fewer digits).");
        LendingCells x = three();
        is("one", x.runScript(1, 60040), NONE);
        is("two", x.runScript(2, 60040_61010L), NONE);
        is("three", x.runScript(3, 60040_61010_62005L), NONE);
        is("the first of three", x.runScript(3, 60041_61010_62005L), 0);
        is("the second of three", x.runScript(3, 60040_61011_62005L), 1);
        is("the third of three", x.runScript(3, 60040_61010_62006L), 2);
        is("the first of two", x.runScript(2, 60041_61010L), 0);
        is("the second of two", x.runScript(2, 60040_61011L), 1);
        is("zeros before it", x.runScript(2, 60040), 0);
        is("zeros before it", x.runScript(3, 60040_61010L), 0);
        is("zeros only", x.runScript(3, 0), 0);
        is("a zero behind one that succeeds", x.runScript(2, 60040_00000L), 1);
    }

    private void commands() {
        says("1 a b x y: lend(a, b, xy, 10).");
        succeeds(three(), 10110);
        fails(three(), 10111);
        // The interest of 10 is 1, that of 11 is 2.
        LendingCells rate = Runs.loaded("Bc99990c99000");
        is("at 10", rate.runScript(3, 10110_50001_61009L), NONE);
        is("at 10", rate.runScript(3, 10110_50001_61010L), 2);
        is("at 10", rate.runScript(3, 10111_50001_61009L), NONE);
        is("at 10", rate.runScript(3, 10111_50001_61010L), 2);
        is("the lender is ahead", rate.runScript(2, 10199_60000L), NONE);
        fails(rate, 11001);

        says("2 i i x y: repay(ii, xy).");
        is("all", three().runScript(3, 20010_80000_71000L), NONE);
        is("a part", three().runScript(3, 20009_80001_60049L), NONE);
        fails(three(), 20011);
        fails(three(), 20101);
        succeeds(Runs.loaded(TWELVE), 21101);
        fails(Runs.loaded(TWELVE), 21201);
        fails(Runs.loaded(TWELVE), 29901);

        says("3 0 0 x y: charge(xy).");
        is("10", three().runScript(3, 30010_60050_62010L), NONE);
        is("no more than full", three().runScript(2, 30010_60051L), 1);
        succeeds(three(), 30099);
        succeeds(Runs.loaded("B"), 30001);

        says("4 0 0 x y: draw(xy).");
        // Cell 2 borrows 5 from cell 0.
        is("10", three().runScript(3, 40010_80015_60025L), NONE);
        is("10", three().runScript(3, 40010_80015_60026L), 2);
        is("10", three().runScript(2, 40010_80014L), 1);
        fails(three(), 40011);
        succeeds(Runs.loaded("Bc10010"), 40001);
        fails(Runs.loaded("Bc10010"), 40002);

        says("5 0 0 x y: pass(xy).");
        is("10 rounds", three().runScript(3, 50010_61000_71001L), NONE);
        is("11 rounds", three().runScript(2, 50011_71002L), NONE);
        is("13 rounds", three().runScript(3, 50013_71003_90001L), NONE);
        is("13 rounds", three().runScript(2, 50013_90000L), 1);
        succeeds(three(), 50050);
    }

    private void questions() {
        says("6 c 0 x y: succeeds if the cell c has a charge of at least xy.");
        succeeds(three(), 60040);
        fails(three(), 60041);
        succeeds(three(), 60000);
        succeeds(three(), 62005);
        fails(three(), 62006);
        succeeds(Runs.loaded("Bc99990"), 60099);
        fails(Runs.loaded("Bc99980"), 60099);
        succeeds(fallen(), 61000);

        says("7 c 0 0 k: succeeds if the cell c has the kind k.");
        for (int kind = 0; kind <= 9; kind++) {
            LendingCells late = Runs.loaded(FALLING);
            late.pass(1);
            is("kind 0, " + kind, three().runScript(1, 70000 + kind), kind == 0 ? NONE : 0);
            is("kind 1, " + kind, three().runScript(1, 71000 + kind), kind == 1 ? NONE : 0);
            is("kind 2, " + kind, late.runScript(1, 71000 + kind), kind == 2 ? NONE : 0);
            is("kind 3, " + kind, fallen().runScript(1, 71000 + kind), kind == 3 ? NONE : 0);
        }

        says("8 0 x y z: succeeds if at most xyz is owed in all loans together.");
        succeeds(three(), 80010);
        fails(three(), 80009);
        succeeds(three(), 80999);
        succeeds(Runs.loaded("B"), 80000);
        LendingCells hundreds = Runs.loaded("Bc99990c99000l019900c99990l209900");
        succeeds(hundreds, 80198);
        fails(hundreds, 80197);
        fails(hundreds, 80098);

        says("9 0 0 0 n: succeeds if at most n cells are bankrupt.");
        succeeds(three(), 90000);
        succeeds(three(), 90009);
        succeeds(fallen(), 90001);
        fails(fallen(), 90000);
        LendingCells all = ring();
        all.pass(3);
        succeeds(all, 90008);
        fails(all, 90007);
    }

    private void failing() {
        says("The commands 1 to 5 fail if the method would throw an exception;");
        for (int group : new int[] {10100, 10001, 12006, 14101, 12241, 20000, 20011, 30000, 40000, 40011, 40099, 50000,
            50051, 50099}) {
            fails(three(), group);
        }
        fails(Runs.loaded(TWELVE), 10101);
        fails(Runs.loaded("B"), 40001);
        fails(fallen(), 11001);
        fails(fallen(), 10101);
        LendingCells half = Runs.loaded("Bc99000c99080c99000");
        fails(half, 40004);
        succeeds(half, 40002);

        says("commands with cells or loans that do not exist fail,");
        for (int group : new int[] {10301, 13001, 10901, 19001, 20101, 21001, 29901, 63000, 69000, 73000, 79000}) {
            fails(three(), group);
        }
        for (int group : new int[] {10101, 20001, 60000, 70000}) {
            fails(Runs.loaded("B"), group);
        }
    }

    private void otherGroups() {
        says("and so does any other group (also one with another digit where a 0 is written).");
        for (int group = 0; group < 10000; group++) {
            if (group < 20 || group % 97 == 0 || group == 9999) {
                fails(three(), group);
            }
        }
        for (int digit = 1; digit <= 9; digit++) {
            for (int first = 3; first <= 5; first++) {
                fails(three(), first * 10000 + digit * 1000 + 1);
                fails(three(), first * 10000 + digit * 100 + 1);
            }
            fails(three(), 60000 + digit * 100);
            fails(three(), 70000 + digit * 100);
            fails(three(), 70000 + digit * 10);
            fails(three(), 80000 + digit * 1000 + 999);
            fails(three(), 90000 + digit * 1000 + 9);
            fails(three(), 90000 + digit * 100 + 9);
            fails(three(), 90000 + digit * 10 + 9);
        }

        says("xy, xyz and ii are decimal numbers.");
        succeeds(Runs.loaded("Bc99120"), 60012);
        fails(Runs.loaded("Bc99120"), 60013);
        fails(Runs.loaded("Bc99120"), 60021);
        succeeds(Runs.loaded("Bc99990c99000l011000"), 20010);
        fails(Runs.loaded("Bc99990c99000l010900"), 20010);
        succeeds(Runs.loaded(TWELVE), 80012);
        fails(Runs.loaded(TWELVE), 80011);
        succeeds(Runs.loaded(TWELVE), 21001);
    }

    private void scriptArguments() {
        LendingCells x = three();
        says("n: number of commands, 1 to 3");
        is("1", x.runScript(1, 60000), NONE);
        is("3", x.runScript(3, 60000_60000_60000L), NONE);

        says("script: the commands, a number of at most 5 * n digits (0 or more)");
        is("0", x.runScript(1, 0), 0);
        is("5 digits", x.runScript(1, 99999), 0);
        is("10 digits", x.runScript(2, 99999_99999L), 0);
        is("15 digits", x.runScript(3, 99999_99999_99999L), 0);

        says("Returns the index, from 0, of the first command that fails; NONE if all succeed.");
        is("the first of several", x.runScript(3, 60041_60041_60041L), 0);
        is("the second of several", x.runScript(3, 60040_60041_60041L), 1);
        is("the third", x.runScript(3, 60040_60040_60041L), 2);
        is("none", x.runScript(3, 60040_60040_60040L), NONE);
        is("the third of three actions", x.runScript(3, 40005_40001_40050L), 2);

        says("Throws IllegalArgumentException if n is out of range, or if script is negative or has more than 5 * n digits");
        for (int n : outside(1, 3)) {
            LendingCells y = three();
            refuses("n " + n, y, IAE, () -> y.runScript(n, 0));
            refuses("n " + n, y, IAE, () -> y.runScript(n, 60000_60000_60000L));
        }
        for (int n = 1; n <= 3; n++) {
            int commands = n;
            long tooLong = n == 1 ? 1_00000L : n == 2 ? 1_00000_00000L : 1_00000_00000_00000L;
            LendingCells y = three();
            for (long script : new long[] {-1, -60000, Long.MIN_VALUE, tooLong, Long.MAX_VALUE}) {
                refuses("script " + script, y, IAE, () -> y.runScript(commands, script));
            }
            is("one digit less", x.runScript(n, tooLong - 1), 0);
        }
        // Its lowest 32 bits alone would be a script.
        refuses("2 to the 32nd and more", x, IAE, () -> x.runScript(1, (1L << 32) + 60000));
    }

    /** The numbers r of the seed, without any overflow of a long. */
    private static List<Integer> numbers(long seed, int m) {
        BigInteger all = BigInteger.ONE.shiftLeft(64);
        BigInteger x = BigInteger.valueOf(seed).mod(all);
        List<Integer> found = new ArrayList<>();
        for (int k = 0; k < m; k++) {
            x = x.multiply(new BigInteger("6364136223846793005")).add(new BigInteger("1442695040888963407")).mod(all);
            found.add(x.shiftRight(33).intValueExact());
        }
        return found;
    }

    /** Does the rounds of a simulation one by one by the actions, and tells what they come to. */
    private static int oneByOne(LendingCells x, long seed, int m) {
        int used = x.about(5);
        int bankrupt = Integer.bitCount(x.about(9));
        for (int r : numbers(seed, m)) {
            int n = 1 + (r / 4) % 9;
            if (r % 4 == 0) {
                x.charge(n);
            } else if (r % 4 < 3) {
                Check.outcome(() -> x.draw(n));
            }
            x.pass(1);
        }
        return 100000 * (Integer.bitCount(x.about(9)) - bankrupt) + x.about(5) - used;
    }

    /** The least seed whose first round is of this kind, by this number of units. */
    private static long seedOf(int kind, int n) {
        for (long seed = 0; ; seed++) {
            int r = numbers(seed, 1).get(0);
            if (r % 4 == kind && 1 + r / 4 % 9 == n) {
                return seed;
            }
        }
    }

    private void copyIsSimulated() {
        says("Simulates m rounds on a copy of the state.");
        LendingCells x = Runs.loaded("Bc99990c10003c50000l010150l022010");
        x.charge(3);
        x.draw(2);
        String before = Runs.state(x);
        int answer = x.simulate(7, 99);
        is("the state is the same", Runs.state(x), before);
        is("the same again", x.simulate(7, 99), answer);
        is("no actions", x.undo(), 1);
    }

    private void random() {
        says("A long x starts as the seed.");
        String told = "Bc99990c99101c50203c40300l010550l021050l030820";
        for (long seed = -20; seed <= 20; seed++) {
            is("seed " + seed, Runs.loaded(told).simulate(seed, 30), oneByOne(Runs.loaded(told), seed, 30));
        }

        says("Before each round, x is replaced by x * 6364136223846793005L + 1442695040888963407L (with long overflow), and r "
                + "= (int) (x >>> 33) is computed.");
        for (long seed : new long[] {Long.MIN_VALUE, Long.MAX_VALUE, 1L << 40, -1L << 50, 1L << 62, 0x5555555555555555L}) {
            for (int m = 1; m <= 12; m++) {
                is("seed " + seed + ", " + m, Runs.loaded(told).simulate(seed, m), oneByOne(Runs.loaded(told), seed, m));
            }
        }
        // With the seed 0: nothing, charge 4, draw 7, charge 8, draw 2, nothing, charge 3, nothing.
        int[] used = {0, 0, 7, 7, 9, 9, 9, 9};
        for (int m = 1; m <= 8; m++) {
            is("seed 0, " + m, Runs.loaded("Bc99500").simulate(0, m), used[m - 1]);
        }
    }

    private void whatIsDone() {
        says("By r % 4: 0: 1 + r / 4 % 9 is charged.");
        for (int n = 1; n <= 9; n++) {
            long seed = seedOf(0, n);
            // What the leak and the interest need is there only if n is charged: 3 and 1, of a charge of 3 or less.
            LendingCells x = Runs.loaded("Bc99990c99003l010150");
            x.pass(2);
            is("late", x.cell(1, 3), 2);
            is("charge " + n, x.simulate(seed, 1), n < 4 ? 100000 : 0);
            is("charge " + n + " of one that would be full", Runs.loaded("Bc10100").simulate(seed, 1), 0);
        }

        says("1 and 2: 1 + r / 4 % 9 is drawn, if that is possible.");
        for (int kind = 1; kind <= 2; kind++) {
            for (int n = 1; n <= 9; n++) {
                long seed = seedOf(kind, n);
                is("all " + n, Runs.loaded("Bc10" + "0" + n + "0").simulate(seed, 1), n);
                is("all but 1 of " + n, Runs.loaded("Bc10" + "0" + (n - 1) + "0").simulate(seed, 1), 0);
                is("two cells by " + n, Runs.loaded("Bc10100c10100").simulate(seed, 1), 2 * n);
                is("with a loan of " + n, Runs.loaded("Bc99500c10000").simulate(seed, 1), 2 * n);
            }
        }
        // With the seed 1: draw 4, draw 6, charge 4, draw 8. One of two loans of the first round would be possible.
        LendingCells half = Runs.loaded("Bc99000c99300c99040c10000");
        int[] used = {16, 16, 16, 48};
        for (int m = 1; m <= 4; m++) {
            is("no loan stays of one that is not possible, " + m, half.simulate(1, m), used[m - 1]);
        }

        says("3: nothing.");
        for (int n = 1; n <= 9; n++) {
            LendingCells x = Runs.loaded("Bc99990c99003l010150");
            x.pass(2);
            is("nothing drawn, nothing charged", x.simulate(seedOf(3, n), 1), 100000);
        }

        says("Then the round goes by.");
        // Of seed 0, the first draw, by 7, is in the third round, behind a charge of 4.
        is("7 left", Runs.loaded("Bc99072").simulate(0, 3), 7);
        is("6 left", Runs.loaded("Bc99062").simulate(0, 3), 0);
        is("0 left", Runs.loaded("Bc99033").simulate(0, 3), 0);
        LendingCells last = Runs.loaded(FALLING);
        last.pass(2);
        is("the last one too", last.simulate(seedOf(1, 1), 1) / 100000, 1);
    }

    private void simulated() {
        String told = "Bc99500c99003l014050";
        LendingCells x = Runs.loaded(told);
        says("seed: any long");
        for (long seed : new long[] {Long.MIN_VALUE, -1, 0, Long.MAX_VALUE}) {
            is("seed " + seed, x.simulate(seed, 9), oneByOne(Runs.loaded(told), seed, 9));
        }

        says("m: number of rounds, 1 to 99");
        for (long seed = 0; seed < 20; seed++) {
            is("1 round, seed " + seed, x.simulate(seed, 1), oneByOne(Runs.loaded(told), seed, 1));
            is("99 rounds, seed " + seed, x.simulate(seed, 99), oneByOne(Runs.loaded(told), seed, 99));
        }

        says("Returns 100000 * (the number of cells that become bankrupt in them) + (what is used in them).");
        // Cell 1 misses its interest of 20 in rounds 2 to 4.
        int[] due = {0, 0, 14, 100014, 100016, 100016, 100016, 100016};
        for (int m = 1; m <= 8; m++) {
            is("seed 0, " + m, x.simulate(0, m), due[m - 1]);
        }
        x.pass(4);
        is("bankrupt ahead of it", x.simulate(0, 5), 9);
        x.draw(1);
        is("used ahead of it", x.simulate(0, 5), 9);
        is("all eight", ring().simulate(seedOf(3, 1), 1) + ring().simulate(0, 1), 0);
        LendingCells all = ring();
        all.pass(2);
        is("all eight", all.simulate(seedOf(3, 1), 1), 800000);
        is("no cells", new LendingCells().simulate(0, 99), 0);

        says("Throws IllegalArgumentException if m is out of range");
        for (int m : outside(1, 99)) {
            refuses("m " + m, x, IAE, () -> x.simulate(0, m));
        }
    }

    private void save() {
        says("Stores the present state in a save slot.");
        LendingCells x = Runs.loaded("Bc50402c30003l010550");
        x.pass(2);
        String saved = Runs.state(x);
        x.save(0);
        x.charge(9);
        String later = Runs.state(x);
        x.save(1);
        x.pass(9);
        x.restore(0);
        is("slot 0", Runs.state(x), saved);
        x.restore(1);
        is("slot 1", Runs.state(x), later);
        x.save(0);
        x.restore(0);
        is("over the old one", Runs.state(x), later);
        int before = x.about(3);
        x.charge(1);
        x.save(0);
        is("save is no action", x.undo(), 0);
        is("the charging is taken back", x.about(3), before);
        is("and the slot is not", x.restore(0), before + 2);

        says("slot: 0 or 1");
        LendingCells none = new LendingCells();
        is("0", none.save(0), 0);
        is("1", none.save(1), 0);

        says("Returns all charge.");
        none.addCell(50, 40, 0);
        none.addCell(50, 5, 0);
        is("of both cells", none.save(0), 45);
        none.draw(5);
        is("what is left", none.save(0), 35);

        says("Throws IndexOutOfBoundsException if there is no such save slot");
        for (int slot : outside(0, 1)) {
            refuses("slot " + slot, none, IOOBE, () -> none.save(slot));
        }
        is("slot 0 is kept", none.restore(0), 35);
        is("slot 1 is kept", none.restore(1), 0);
    }

    private void restore() {
        says("Replaces the state by the one in a save slot, and forgets all remembered states.");
        LendingCells x = Runs.loaded("Bc50402c30003l010550");
        x.draw(1);
        x.pass(2);
        String saved = Runs.state(x);
        x.save(1);
        x.append('x');
        x.addCell(10, 1, 1);
        x.charge(9);
        x.repay(0, 1);
        x.pass(20);
        x.restore(1);
        is("all of it", Runs.state(x), saved);
        refuses("nothing is remembered", x, ISE, x::undo);
        is("the text is none of it", x.clearText(), 21);

        says("The save slot keeps it.");
        x.charge(5);
        x.pass(1);
        x.restore(1);
        is("again", Runs.state(x), saved);
        x.setLeak(0, 3);
        is("an action behind it", x.undo(), 0);
        x.restore(1);
        is("and again", Runs.state(x), saved);

        says("slot: 0 or 1");
        x.save(0);
        x.charge(1);
        x.restore(0);
        is("0", Runs.state(x), saved);
        x.charge(1);
        x.restore(1);
        is("1", Runs.state(x), saved);

        says("Returns all charge then.");
        LendingCells y = Runs.loaded("Bc50400c30050");
        y.save(0);
        y.draw(5);
        y.save(1);
        is("45", y.restore(0), 45);
        is("35", y.restore(1), 35);

        says("Throws IndexOutOfBoundsException if there is no such save slot");
        for (int slot : outside(0, 1)) {
            refuses("slot " + slot, y, IOOBE, () -> y.restore(slot));
            LendingCells none = new LendingCells();
            refuses("nothing saved, slot " + slot, none, IOOBE, () -> none.restore(slot));
        }

        says("Throws IllegalStateException if nothing has been saved in it since the last load");
        LendingCells z = Runs.loaded("Bc50400");
        refuses("never, 0", z, ISE, () -> z.restore(0));
        z.save(1);
        refuses("in the other one", z, ISE, () -> z.restore(0));
        z.charge(1);
        refuses("a refused one forgets nothing", z, ISE, () -> z.restore(0));
        is("a refused one forgets nothing", z.undo(), 0);
        is("in this one", z.restore(1), 40);
        z.load();
        refuses("not since the load, 0", z, ISE, () -> z.restore(0));
        refuses("not since the load, 1", z, ISE, () -> z.restore(1));
        z.append('x');
        z.save(0);
        refuses("a load that is refused", z, ISE, z::load);
        is("empties none", z.restore(0), 40);
    }
}
