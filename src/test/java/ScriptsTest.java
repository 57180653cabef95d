/** Promises 23 to 26: scripts, simulations and save slots. */
public final class ScriptsTest {
    private static final Class<IllegalArgumentException> IAE = IllegalArgumentException.class;
    private static final Class<IllegalStateException> ISE = IllegalStateException.class;
    private static final Class<IndexOutOfBoundsException> IOOBE = IndexOutOfBoundsException.class;
    private static final int NONE = LendingCells.NONE;
    /** Cell 0 has 40 of 50, cell 1 owes 10 and has 10 of 20, cell 2 has 5 of 10. */
    private static final String THREE = "Bc50500c20000c10050l011010";
    private static final Check CHECK = new Check();

    public static void main(String[] args) {
        promise23Actions();
        promise23Questions();
        promise23OtherGroups();
        promise23Several();
        promise23Wrong();
        promise24OneCell();
        promise24Bankrupt();
        promise24NotPossible();
        promise24Wrong();
        promise25Save();
        promise26Restore();
        CHECK.end();
    }

    private static void succeeds(String text, int group) {
        LendingCells x = Runs.loaded(text);
        String before = Runs.state(x);
        CHECK.is("23: " + group + " on " + text, x.runScript(1, group), NONE);
        CHECK.is("23: " + group + " changes nothing", Runs.state(x), before);
        CHECK.refuses("23: " + group + " is no action", ISE, x::undo);
    }

    private static void fails(String text, int group) {
        LendingCells x = Runs.loaded(text);
        String before = Runs.state(x);
        CHECK.is("23: " + group + " on " + text, x.runScript(1, group), 0);
        CHECK.is("23: " + group + " changes nothing", Runs.state(x), before);
    }

    private static void promise23Actions() {
        succeeds(THREE, 10110);
        fails(THREE, 10111);
        fails(THREE, 10100);
        fails(THREE, 10001);
        fails(THREE, 10301);
        fails(THREE, 13001);
        succeeds(THREE, 12005);
        fails(THREE, 12006);
        fails("Bc99990c99000" + "l010100".repeat(12), 10101);
        succeeds(THREE, 20010);
        fails(THREE, 20011);
        fails(THREE, 20000);
        fails(THREE, 20110);
        fails(THREE, 21001);
        fails(THREE, 22001);
        String twelve = "Bc99990c99000" + "l010100".repeat(12);
        succeeds(twelve, 21101);
        fails(twelve, 21201);
        fails(twelve, 29901);
        succeeds(THREE, 30001);
        succeeds(THREE, 30099);
        fails(THREE, 30000);
        fails(THREE, 30101);
        fails(THREE, 31001);
        succeeds("B", 30001);
        succeeds(THREE, 40010);
        fails(THREE, 40011);
        fails(THREE, 40000);
        fails(THREE, 40105);
        fails(THREE, 41005);
        fails("B", 40001);
        succeeds("Bc10010", 40001);
        succeeds(THREE, 50001);
        succeeds(THREE, 50050);
        fails(THREE, 50051);
        fails(THREE, 50000);
        fails(THREE, 50101);
        fails(THREE, 51001);
        succeeds("B", 50001);
    }

    private static void promise23Questions() {
        succeeds(THREE, 60040);
        fails(THREE, 60041);
        succeeds(THREE, 60000);
        succeeds(THREE, 62005);
        fails(THREE, 62006);
        fails(THREE, 62105);
        fails(THREE, 63000);
        fails(THREE, 69000);
        fails("B", 60000);
        succeeds(THREE, 70000);
        fails(THREE, 70001);
        succeeds(THREE, 71001);
        fails(THREE, 71000);
        fails(THREE, 71002);
        fails(THREE, 71011);
        fails(THREE, 71101);
        fails(THREE, 70004);
        fails(THREE, 73000);
        fails("B", 70000);
        succeeds(THREE, 80010);
        fails(THREE, 80009);
        succeeds(THREE, 80999);
        fails(THREE, 81010);
        succeeds("B", 80000);
        succeeds("Bc99990c99000l019900c99990l209900", 80198);
        fails("Bc99990c99000l019900c99990l210100", 80099);
        succeeds("Bc99990c99000l019900c99990l210100", 80100);
        succeeds(THREE, 90000);
        succeeds(THREE, 90009);
        fails(THREE, 90010);
        fails(THREE, 90100);
        fails(THREE, 91000);
        LendingCells fallen = Runs.loaded("Bc99500c99003l010150");
        fallen.pass(1);
        CHECK.is("23: late", fallen.runScript(1, 71002), NONE);
        fallen.pass(2);
        CHECK.is("23: bankrupt", fallen.runScript(1, 71003), NONE);
        CHECK.is("23: one is", fallen.runScript(1, 90001), NONE);
        CHECK.is("23: more than none", fallen.runScript(1, 90000), 0);
        CHECK.is("23: a bankrupt one has a charge of 0", fallen.runScript(1, 61000), NONE);
        CHECK.is("23: lends none", fallen.runScript(1, 11001), 0);
    }

    private static void promise23OtherGroups() {
        fails(THREE, 0);
        fails(THREE, 1);
        fails(THREE, 9999);
        fails(THREE, 110);
        fails("B", 0);
    }

    private static void promise23Several() {
        LendingCells x = Runs.loaded(THREE);
        CHECK.is("23: all", x.runScript(3, 30010_60050_62010L), NONE);
        CHECK.is("23: the first", x.runScript(3, 60041_60040_60040L), 0);
        CHECK.is("23: the second", x.runScript(3, 60040_60041_60041L), 1);
        CHECK.is("23: the third", x.runScript(3, 60040_60040_60041L), 2);
        CHECK.is("23: the second of two", x.runScript(2, 60040_60041L), 1);
        CHECK.is("23: two", x.runScript(2, 60040_60040L), NONE);
        CHECK.is("23: zeros before it", x.runScript(2, 60040L), 0);
        CHECK.is("23: zeros before it", x.runScript(3, 60040_60040L), 0);
        CHECK.is("23: each on what was before", x.runScript(3, 10110_60030_61020L), NONE);
        CHECK.is("23: each on what was before", x.runScript(3, 10110_60031_61020L), 1);
        // The interest of 10 units is 1, that of 11 is 2.
        CHECK.is("23: lends at 10", Runs.loaded("Bc99990c99000").runScript(3, 10110_50001_61009L), NONE);
        CHECK.is("23: lends at 10", Runs.loaded("Bc99990c99000").runScript(3, 10111_50001_61010L), 2);
        CHECK.is("23: repays all", x.runScript(3, 20010_80000_71000L), NONE);
        CHECK.is("23: draws", x.runScript(3, 40010_80015_60026L), 2);
        CHECK.is("23: draws with a loan", x.runScript(3, 40010_80015_60025L), NONE);
        CHECK.is("23: owes more then", x.runScript(2, 40010_80014L), 1);
        CHECK.is("23: passes", x.runScript(3, 50010_61000_71001L), NONE);
        CHECK.is("23: passes", x.runScript(3, 50011_71002_50002L), NONE);
        CHECK.is("23: passes", x.runScript(3, 50013_71003_90001L), NONE);
        CHECK.is("23: passes", x.runScript(2, 50013_90000L), 1);
        CHECK.is("23: still the same", x.runScript(3, 60040_61010_62005L), NONE);
        Runs.isAbout(CHECK, "23: still the same", x, 3, 1, 0, 55, 55, 0, 0, 10, 0, 0);
    }

    private static void promise23Wrong() {
        LendingCells x = Runs.loaded(THREE);
        for (int n : new int[] {0, 4, -1, Integer.MIN_VALUE, Integer.MAX_VALUE}) {
            CHECK.refuses("23: n " + n, IAE, () -> x.runScript(n, 0));
        }
        for (int n = 1; n <= 3; n++) {
            int k = n;
            CHECK.refuses("23: -1", IAE, () -> x.runScript(k, -1));
            CHECK.refuses("23: least", IAE, () -> x.runScript(k, Long.MIN_VALUE));
            CHECK.refuses("23: greatest", IAE, () -> x.runScript(k, Long.MAX_VALUE));
            CHECK.is("23: zero", x.runScript(k, 0), 0);
        }
        CHECK.is("23: 5 digits", x.runScript(1, 99999), 0);
        CHECK.refuses("23: 6 digits", IAE, () -> x.runScript(1, 100000));
        CHECK.is("23: 10 digits", x.runScript(2, 9999999999L), 0);
        CHECK.refuses("23: 11 digits", IAE, () -> x.runScript(2, 10000000000L));
        CHECK.is("23: 15 digits", x.runScript(3, 999999999999999L), 0);
        CHECK.refuses("23: 16 digits", IAE, () -> x.runScript(3, 1000000000000000L));
    }

    /** With the seed 0 come: nothing, charge 4, draw 7, charge 8, draw 2, nothing, charge 3, nothing. */
    private static void promise24OneCell() {
        LendingCells x = Runs.loaded("Bc99500");
        String before = Runs.state(x);
        int[] used = {0, 0, 7, 7, 9, 9, 9, 9};
        for (int m = 1; m <= 8; m++) {
            CHECK.is("24: seed 0, " + m, x.simulate(0, m), used[m - 1]);
        }
        // With the seed -1: charge 2, nothing, draw 1, draw 7, charge 4, nothing, draw 6, nothing.
        int[] more = {0, 0, 1, 8, 8, 8, 14, 14};
        for (int m = 1; m <= 8; m++) {
            CHECK.is("24: seed -1, " + m, x.simulate(-1, m), more[m - 1]);
        }
        CHECK.is("24: changes nothing", Runs.state(x), before);
        CHECK.refuses("24: no action", ISE, x::undo);
        x.draw(30);
        CHECK.is("24: used before does not count", x.simulate(0, 5), 9);
        CHECK.is("24: no cells", new LendingCells().simulate(0, 99), 0);
        // The leak takes the charge before anything can be drawn.
        CHECK.is("24: the rounds go by", Runs.loaded("Bc99033").simulate(0, 3), 0);
        CHECK.is("24: the rounds go by", Runs.loaded("Bc99122").simulate(0, 3), 7);
    }

    /** Cell 1 misses its interest of 20 in rounds 2 to 4. */
    private static void promise24Bankrupt() {
        LendingCells x = Runs.loaded("Bc99500c99003l014050");
        int[] due = {0, 0, 14, 100014, 100016, 100016, 100016, 100016};
        for (int m = 1; m <= 8; m++) {
            CHECK.is("24: bankrupt, " + m, x.simulate(0, m), due[m - 1]);
        }
        x.pass(4);
        CHECK.is("24: bankrupt before", x.about(9), 2);
        CHECK.is("24: not counted again", x.simulate(0, 5), 9);
    }

    /** With the seed 1 come: draw 4, draw 6, charge 4, draw 8, draw 5, nothing, draw 4, draw 9. */
    private static void promise24NotPossible() {
        int[] alone = {0, 0, 0, 0, 0, 0, 4, 4};
        LendingCells x = Runs.loaded("Bc99000");
        for (int m = 1; m <= 8; m++) {
            CHECK.is("24: not possible, " + m, x.simulate(1, m), alone[m - 1]);
        }
        LendingCells y = Runs.loaded("Bc99000c99080c99000");
        int[] due = {0, 0, 0, 0, 15, 15, 200015, 200015};
        for (int m = 1; m <= 8; m++) {
            CHECK.is("24: half possible, " + m, y.simulate(1, m), due[m - 1]);
        }
        // In round 2, two loans are possible and the third is not; if they stayed, 8 could not be drawn in round 4.
        LendingCells z = Runs.loaded("Bc99000c99300c99040c10000");
        int[] used = {16, 16, 16, 48};
        for (int m = 1; m <= 4; m++) {
            CHECK.is("24: no loans stay, " + m, z.simulate(1, m), used[m - 1]);
        }
    }

    private static void promise24Wrong() {
        LendingCells x = Runs.loaded("Bc99500");
        for (int m : new int[] {0, 100, -1, Integer.MIN_VALUE, Integer.MAX_VALUE}) {
            CHECK.refuses("24: " + m, IAE, () -> x.simulate(1, m));
        }
        for (long seed : new long[] {Long.MIN_VALUE, Long.MAX_VALUE}) {
            CHECK.is("24: any seed", x.simulate(seed, 99) >= 0, true);
        }
    }

    private static void promise25Save() {
        LendingCells x = new LendingCells();
        CHECK.is("25: empty", x.save(0), 0);
        x.addCell(50, 40, 2);
        x.addCell(30, 5, 0);
        CHECK.is("25: all charge", x.save(1), 45);
        CHECK.is("25: no action", x.undo(), 1);
        CHECK.is("25: the first slot", x.restore(0), 0);
        CHECK.is("25: the first slot", x.about(0), 0);
        CHECK.is("25: the second slot", x.restore(1), 45);
        x.charge(3);
        CHECK.is("25: over the old one", x.save(1), 51);
        x.pass(1);
        CHECK.is("25: the new one", x.restore(1), 51);
        for (int slot : new int[] {-1, 2, Integer.MIN_VALUE, Integer.MAX_VALUE}) {
            CHECK.refuses("25: slot " + slot, IOOBE, () -> x.save(slot));
        }
        CHECK.is("25: both are kept", x.restore(0) + x.restore(1), 51);
    }

    private static void promise26Restore() {
        LendingCells x = Runs.loaded("Bc50402c30003l010550");
        x.draw(1);
        x.pass(2);
        String saved = Runs.state(x);
        int charge = x.save(0);
        x.append('x');
        x.charge(9);
        x.repay(0, 1);
        x.setLeak(1, 0);
        x.lend(0, 1, 2, 2);
        x.addCell(10, 1, 1);
        CHECK.is("26: charge", x.restore(0), charge);
        CHECK.is("26: as it was", Runs.state(x), saved);
        CHECK.refuses("26: forgets the states", ISE, x::undo);
        CHECK.is("26: the text is kept", x.clearText(), 21);
        x.pass(50);
        x.addCell(10, 1, 1);
        CHECK.is("26: the slot keeps it", x.restore(0), charge);
        CHECK.is("26: the slot keeps it", Runs.state(x), saved);
        x.setLeak(0, 3);
        CHECK.is("26: an action after it", x.undo(), 0);
        CHECK.is("26: taken back", Runs.state(x), saved);

        x.pass(1);
        for (int slot : new int[] {-1, 2, Integer.MIN_VALUE, Integer.MAX_VALUE}) {
            CHECK.refuses("26: slot " + slot, IOOBE, () -> x.restore(slot));
        }
        CHECK.refuses("26: never saved", ISE, () -> x.restore(1));
        CHECK.is("26: a refused one forgets nothing", x.undo(), 0);
        Runs.tell(x, "Bc10100");
        x.load();
        CHECK.refuses("26: not since the load", ISE, () -> x.restore(0));
        x.save(1);
        CHECK.refuses("26: not in this one", ISE, () -> x.restore(0));
        CHECK.is("26: saved since", x.restore(1), 10);
    }
}
