import java.util.ArrayDeque;
import java.util.ArrayList;
import java.util.Comparator;
import java.util.Deque;
import java.util.List;
import java.util.Optional;
import java.util.TreeSet;
import java.util.function.IntPredicate;
import java.util.regex.Matcher;
import java.util.regex.Pattern;
import java.util.stream.IntStream;

/**
 * The document written a second time, in other means than the class: objects in lists, copies of the whole
 * state for every trial, and a text that is judged by all numbers that could still stand in it.
 */
final class PlainModel {
    static final int NONE = -9;

    private static final class Cell {
        int capacity;
        int charge;
        int leak;
        int late;
        boolean bankrupt;
    }

    private static final class Loan {
        Cell lender;
        Cell borrower;
        int owed;
        int rate;
        int arrived;
        int burnt;

        int interest() {
            return (int) Math.ceil(owed * rate / 100.0 - 1e-9);
        }
    }

    private static final class State {
        List<Cell> cells = new ArrayList<>();
        List<Loan> loans = new ArrayList<>();
        int rounds;
        int putIn;
        int used;
        int heat;
        int lost;

        State copy() {
            State s = new State();
            for (Cell cell : cells) {
                Cell c = new Cell();
                c.capacity = cell.capacity;
                c.charge = cell.charge;
                c.leak = cell.leak;
                c.late = cell.late;
                c.bankrupt = cell.bankrupt;
                s.cells.add(c);
            }
            for (Loan loan : loans) {
                Loan l = new Loan();
                l.lender = s.cells.get(cells.indexOf(loan.lender));
                l.borrower = s.cells.get(cells.indexOf(loan.borrower));
                l.owed = loan.owed;
                l.rate = loan.rate;
                l.arrived = loan.arrived;
                s.loans.add(l);
            }
            s.rounds = rounds;
            s.putIn = putIn;
            s.used = used;
            s.heat = heat;
            s.lost = lost;
            return s;
        }

        List<Cell> solvent() {
            return cells.stream().filter(c -> !c.bankrupt).toList();
        }

        int number(Cell cell) {
            return cells.indexOf(cell);
        }

        int arrives(int n, Cell a, Cell b) {
            return n - (int) Math.floor(n * Math.abs(number(a) - number(b)) / 20.0);
        }

        int sizeFor(int units, Cell a, Cell b) {
            int size = 0;
            while (arrives(size, a, b) < units) {
                size++;
            }
            return size;
        }

        void move(int n, Cell a, Cell b) {
            a.charge -= n;
            b.charge += arrives(n, a, b);
            heat += n - arrives(n, a, b);
        }

        void add(int capacity, int charge, int leak) {
            Cell cell = new Cell();
            cell.capacity = capacity;
            cell.charge = charge;
            cell.leak = leak;
            putIn += charge;
            cells.add(cell);
        }

        boolean lends(int a, int b, int n, int rate) {
            Cell lender = cells.get(a);
            Cell borrower = cells.get(b);
            if (lender.bankrupt || borrower.bankrupt || lender.charge < n || loans.size() == 12
                    || borrower.charge + arrives(n, lender, borrower) > borrower.capacity) {
                return false;
            }
            Loan loan = new Loan();
            loan.lender = lender;
            loan.borrower = borrower;
            loan.owed = n;
            loan.rate = rate;
            loan.arrived = arrives(n, lender, borrower);
            loans.add(loan);
            move(n, lender, borrower);
            return true;
        }

        boolean repays(int i, int m) {
            Loan loan = loans.get(i);
            if (loan.owed < m || loan.borrower.charge < m
                    || loan.lender.charge + arrives(m, loan.borrower, loan.lender) > loan.lender.capacity) {
                return false;
            }
            move(m, loan.borrower, loan.lender);
            loan.owed -= m;
            if (loan.owed == 0) {
                loans.remove(loan);
            }
            return true;
        }

        int charges(int n) {
            int over = 0;
            for (Cell cell : solvent()) {
                int full = Math.max(0, cell.charge + n - cell.capacity);
                cell.charge += n - full;
                over += full;
                putIn += n;
            }
            heat += over;
            return over;
        }

        /** Empty if nothing can be drawn; this state is spoilt then. */
        Optional<Integer> gives(int n) {
            if (solvent().isEmpty()) {
                return Optional.empty();
            }
            for (Cell cell : solvent()) {
                if (cell.charge >= n) {
                    continue;
                }
                Optional<Cell> lender = solvent().stream().filter(c -> c != cell)
                        .max(Comparator.<Cell>comparingInt(c -> c.charge).thenComparing(c -> -number(c)));
                if (lender.isEmpty() || cell.capacity < n || loans.size() >= 12) {
                    return Optional.empty();
                }
                int size = sizeFor(n - cell.charge, lender.get(), cell);
                if (lender.get().charge - size < n) {
                    return Optional.empty();
                }
                if (!lends(number(lender.get()), number(cell), size, 10)) {
                    throw new AssertionError("a possible loan of a drawing was refused");
                }
            }
            int all = n * solvent().size();
            solvent().forEach(c -> c.charge -= n);
            used += all;
            return Optional.of(all);
        }

        TreeSet<Integer> round() {
            for (Cell cell : solvent()) {
                int lost = Math.min(cell.leak, cell.charge);
                cell.charge -= lost;
                heat += lost;
            }
            List<Cell> missing = new ArrayList<>();
            for (Loan loan : loans) {
                int burnt = loan.interest();
                if (loan.borrower.charge < burnt) {
                    burnt = loan.borrower.charge;
                    missing.add(loan.borrower);
                }
                loan.borrower.charge -= burnt;
                heat += burnt;
                loan.burnt += burnt;
            }
            TreeSet<Integer> fallen = new TreeSet<>();
            for (Cell cell : cells) {
                if (cell.bankrupt) {
                    continue;
                }
                cell.late = missing.contains(cell) ? cell.late + 1 : 0;
                if (cell.late == 3) {
                    fail(cell);
                    fallen.add(number(cell));
                }
            }
            rounds++;
            return fallen;
        }

        private void fail(Cell cell) {
            int all = cell.charge;
            int debts = loans.stream().filter(l -> l.borrower == cell).mapToInt(l -> l.owed).sum();
            for (Loan loan : List.copyOf(loans)) {
                if (loan.borrower == cell) {
                    int part = all * loan.owed / debts;
                    int fits = Math.min(part, loan.lender.capacity - loan.lender.charge);
                    loan.lender.charge += fits;
                    heat += part - fits;
                    cell.charge -= part;
                }
            }
            heat += cell.charge;
            cell.charge = 0;
            cell.bankrupt = true;
            for (Loan loan : List.copyOf(loans)) {
                if (loan.borrower == cell || loan.lender == cell) {
                    lost += loan.owed;
                    loans.remove(loan);
                }
            }
        }
    }

    private final StringBuilder text = new StringBuilder();
    private State state = new State();
    private final Deque<State> remembered = new ArrayDeque<>();
    private final State[] slots = new State[2];

    // ---- text

    int append(int c) {
        arguments(c >= 0 && c <= 255);
        possible(text.length() < 120);
        text.append((char) c);
        return text.length();
    }

    int clearText() {
        int length = text.length();
        text.setLength(0);
        return length;
    }

    int errorPosition() {
        return read(new State());
    }

    int load() {
        State told = new State();
        possible(read(told) == NONE);
        state = told;
        remembered.clear();
        slots[0] = null;
        slots[1] = null;
        return state.cells.size();
    }

    private static final Pattern CELL = Pattern.compile("c(\\d\\d)(\\d\\d)(\\d)");
    private static final Pattern LOAN = Pattern.compile("l(\\d)(\\d)(\\d\\d)(\\d\\d)");

    private int read(State told) {
        if (text.length() == 0 || text.charAt(0) != 'B') {
            return 0;
        }
        int at = 1;
        while (at < text.length()) {
            String rest = text.substring(at);
            // The first prefix of the rest with which no part can begin any more ends in the error.
            int bad = 0;
            int whole = rest.charAt(0) == 'l' ? 7 : 6;
            while (bad < Math.min(whole, rest.length()) && begins(told, rest.substring(0, bad + 1))) {
                bad++;
            }
            if (bad < whole) {
                return at + bad;
            }
            if (whole == 6) {
                Matcher m = CELL.matcher(rest.substring(0, 6));
                if (!m.matches()) {
                    throw new AssertionError(rest);
                }
                told.add(Integer.parseInt(m.group(1)), Integer.parseInt(m.group(2)), Integer.parseInt(m.group(3)));
            } else {
                Matcher m = LOAN.matcher(rest.substring(0, 7));
                if (!m.matches()) {
                    throw new AssertionError(rest);
                }
                if (!told.lends(Integer.parseInt(m.group(1)), Integer.parseInt(m.group(2)),
                        Integer.parseInt(m.group(3)), Integer.parseInt(m.group(4)))) {
                    return at;
                }
            }
            at += whole;
        }
        return NONE;
    }

    private static boolean begins(State told, String part) {
        int length = part.length();
        if (part.charAt(0) == 'c') {
            if (told.cells.size() == 8) {
                return false;
            }
            return length == 1
                    || length <= 3 && someNumber(part.substring(1), 10, 99)
                    || length > 3 && length <= 5
                            && someNumber(part.substring(3), 0, Integer.parseInt(part.substring(1, 3)))
                    || length == 6 && "0123".indexOf(part.charAt(5)) >= 0;
        }
        if (part.charAt(0) != 'l' || told.cells.size() < 2 || told.loans.size() == 12) {
            return false;
        }
        IntPredicate isCell = c -> c >= '0' && c < '0' + told.cells.size();
        switch (length) {
            case 1:
                return true;
            case 2:
                return isCell.test(part.charAt(1)) && told.cells.get(part.charAt(1) - '0').charge != 0;
            case 3:
                return isCell.test(part.charAt(2)) && part.charAt(2) != part.charAt(1);
            case 4:
            case 5:
                return someNumber(part.substring(3), 1, told.cells.get(part.charAt(1) - '0').charge);
            default:
                return someNumber(part.substring(5), 0, 50);
        }
    }

    private static boolean someNumber(String beginning, int least, int most) {
        return IntStream.rangeClosed(least, most)
                .anyMatch(k -> String.format("%02d", k).startsWith(beginning));
    }

    // ---- what there is

    int about(int what) {
        arguments(what >= 0 && what <= 9);
        int bits = 0;
        for (Cell cell : state.cells) {
            bits += cell.bankrupt ? 1 << state.number(cell) : 0;
        }
        return new int[] {state.cells.size(), state.loans.size(), state.rounds,
            state.cells.stream().mapToInt(c -> c.charge).sum(), state.putIn, state.used, state.heat,
            state.loans.stream().mapToInt(l -> l.owed).sum(), state.lost, bits}[what];
    }

    int cell(int c, int what) {
        exists(c, state.cells.size());
        arguments(what >= 0 && what <= 7);
        return cellNumbers(state, c)[what];
    }

    private static int[] cellNumbers(State s, int c) {
        Cell cell = s.cells.get(c);
        int owes = s.loans.stream().filter(l -> l.borrower == cell).mapToInt(l -> l.owed).sum();
        int isOwed = s.loans.stream().filter(l -> l.lender == cell).mapToInt(l -> l.owed).sum();
        int interest = s.loans.stream().filter(l -> l.borrower == cell).mapToInt(Loan::interest).sum();
        int kind = cell.bankrupt ? 3 : cell.late > 0 ? 2 : owes > 0 ? 1 : 0;
        return new int[] {cell.capacity, cell.charge, cell.leak, cell.bankrupt ? 3 : cell.late, owes, isOwed,
            interest, kind};
    }

    int loan(int i, int what) {
        exists(i, state.loans.size());
        arguments(what >= 0 && what <= 5);
        Loan loan = state.loans.get(i);
        return new int[] {state.number(loan.lender), state.number(loan.borrower), loan.owed, loan.rate,
            loan.interest(), loan.arrived}[what];
    }

    int order(int place) {
        arguments(place >= 0);
        List<Cell> sorted = state.solvent().stream().sorted(Comparator.comparingInt(c -> -c.charge)).toList();
        return place < sorted.size() ? state.number(sorted.get(place)) : NONE;
    }

    // ---- actions

    int addCell(int capacity, int charge, int leak) {
        arguments(capacity >= 10 && capacity <= 99 && charge >= 0 && charge <= capacity && leak >= 0 && leak <= 3);
        possible(state.cells.size() < 8);
        remember();
        state.add(capacity, charge, leak);
        return state.cells.size() - 1;
    }

    int lend(int lender, int borrower, int n, int rate) {
        exists(lender, state.cells.size());
        exists(borrower, state.cells.size());
        arguments(lender != borrower && units(n) && rate >= 0 && rate <= 50);
        possible(state.copy().lends(lender, borrower, n, rate));
        remember();
        state.lends(lender, borrower, n, rate);
        return state.loans.get(state.loans.size() - 1).arrived;
    }

    int repay(int i, int m) {
        exists(i, state.loans.size());
        arguments(units(m));
        possible(state.copy().repays(i, m));
        remember();
        int rest = state.loans.get(i).owed - m;
        state.repays(i, m);
        return rest;
    }

    int setLeak(int c, int leak) {
        exists(c, state.cells.size());
        arguments(leak >= 0 && leak <= 3);
        remember();
        int previous = state.cells.get(c).leak;
        state.cells.get(c).leak = leak;
        return previous;
    }

    int charge(int n) {
        arguments(units(n));
        remember();
        return state.charges(n);
    }

    int draw(int n) {
        arguments(units(n));
        State drawn = state.copy();
        Optional<Integer> given = drawn.gives(n);
        possible(given.isPresent());
        remember();
        state = drawn;
        return given.get();
    }

    int pass(int rounds) {
        arguments(rounds >= 1 && rounds <= 50);
        remember();
        int bits = 0;
        for (int k = 0; k < rounds; k++) {
            for (int c : state.round()) {
                bits += 1 << c;
            }
        }
        return bits;
    }

    int undo() {
        possible(!remembered.isEmpty());
        state = remembered.removeLast();
        return remembered.size();
    }

    private void remember() {
        remembered.addLast(state.copy());
        if (remembered.size() == 15) {
            remembered.removeFirst();
        }
    }

    // ---- what would be

    int holds(int c) {
        exists(c, state.cells.size());
        if (state.cells.get(c).bankrupt) {
            return 0;
        }
        State s = state.copy();
        for (int k = 1; k <= 100; k++) {
            if (s.round().contains(c)) {
                return k;
            }
        }
        return NONE;
    }

    int draws(int n) {
        arguments(units(n));
        State s = state.copy();
        int times = 0;
        while (s.gives(n).isPresent()) {
            times++;
        }
        return times;
    }

    int most() {
        return IntStream.rangeClosed(1, 99).filter(n -> state.copy().gives(n).isPresent()).max().orElse(0);
    }

    int bestLender(int c, int n) {
        exists(c, state.cells.size());
        arguments(units(n));
        Cell lacking = state.cells.get(c);
        if (lacking.bankrupt) {
            return NONE;
        }
        Comparator<Cell> better = Comparator.comparingInt(l -> state.sizeFor(n, l, lacking));
        Optional<Cell> best = state.solvent().stream()
                .filter(l -> l != lacking && l.charge >= state.sizeFor(n, l, lacking))
                .min(better.thenComparing(l -> -l.charge).thenComparing(state::number));
        if (best.isEmpty()) {
            return NONE;
        }
        int arrives = state.arrives(state.sizeFor(n, best.get(), lacking), best.get(), lacking);
        return lacking.charge + arrives > lacking.capacity ? NONE : state.number(best.get());
    }

    int costs(int i, int rounds) {
        exists(i, state.loans.size());
        arguments(rounds >= 1 && rounds <= 50);
        State s = state.copy();
        Loan loan = s.loans.get(i);
        for (int k = 0; k < rounds; k++) {
            s.round();
        }
        return loan.burnt;
    }

    // ---- scripts, simulations

    int runScript(int n, long script) {
        arguments(n >= 1 && n <= 3 && script >= 0 && Long.toString(script).length() <= 5 * n);
        String digits = "0".repeat(5 * n - Long.toString(script).length()) + script;
        PlainModel other = new PlainModel();
        other.state = state.copy();
        for (int k = 0; k < n; k++) {
            if (!other.runs(digits.substring(5 * k, 5 * k + 5))) {
                return k;
            }
        }
        return NONE;
    }

    private boolean runs(String d) {
        int first = Integer.parseInt(d.substring(1, 2));
        int second = Integer.parseInt(d.substring(2, 3));
        int last = Integer.parseInt(d.substring(3));
        try {
            if (d.matches("1....")) {
                lend(first, second, last, 10);
            } else if (d.matches("2....")) {
                repay(Integer.parseInt(d.substring(1, 3)), last);
            } else if (d.matches("300..")) {
                charge(last);
            } else if (d.matches("400..")) {
                draw(last);
            } else if (d.matches("500..")) {
                pass(last);
            } else if (d.matches("6.0..")) {
                return cell(first, 1) >= last;
            } else if (d.matches("7.00.")) {
                return cell(first, 7) == last;
            } else if (d.matches("80...")) {
                return about(7) <= Integer.parseInt(d.substring(2));
            } else if (d.matches("9000.")) {
                return state.cells.size() - state.solvent().size() <= last;
            } else {
                return false;
            }
        } catch (IllegalArgumentException | IllegalStateException | IndexOutOfBoundsException e) {
            return false;
        }
        return true;
    }

    int simulate(long seed, int m) {
        arguments(m >= 1 && m <= 99);
        State s = state.copy();
        long x = seed;
        for (int k = 0; k < m; k++) {
            x = x * 6364136223846793005L + 1442695040888963407L;
            int r = (int) (x >>> 33);
            int n = 1 + (r / 4) % 9;
            switch (r % 4) {
                case 0 -> s.charges(n);
                case 1, 2 -> {
                    State drawn = s.copy();
                    if (drawn.gives(n).isPresent()) {
                        s = drawn;
                    }
                }
                default -> { }
            }
            s.round();
        }
        return 100000 * (state.solvent().size() - s.solvent().size()) + s.used - state.used;
    }

    // ---- save slots

    int save(int slot) {
        exists(slot, 2);
        slots[slot] = state.copy();
        return about(3);
    }

    int restore(int slot) {
        exists(slot, 2);
        possible(slots[slot] != null);
        state = slots[slot].copy();
        remembered.clear();
        return about(3);
    }

    private static boolean units(int n) {
        return n >= 1 && n <= 99;
    }

    private static void exists(int k, int count) {
        if (k < 0 || k >= count) {
            throw new IndexOutOfBoundsException();
        }
    }

    private static void arguments(boolean right) {
        if (!right) {
            throw new IllegalArgumentException();
        }
    }

    private static void possible(boolean right) {
        if (!right) {
            throw new IllegalStateException();
        }
    }
}
