/**
 * A battery whose cells lend charge to each other. What each call promises stands in ../shared/DOC.md.
 *
 * <p>The face below tests the arguments and throws; Battery is the state and changes it, Text reads a
 * battery from the text, History remembers states for undo. All states are made with the object and
 * used again, so that no call makes objects.
 */
public final class LendingCells {
    /** There is no such result. */
    public static final int NONE = -9;

    private static final int MOST_TEXT = 120;
    private static final int MOST_SIGN = 255;
    private static final int MOST_CELLS = 8;
    private static final int MOST_LOANS = 12;
    private static final int MOST_REMEMBERED = 14;
    private static final int SLOTS = 2;
    private static final int LEAST_CAPACITY = 10;
    private static final int MOST_UNITS = 99;
    private static final int MOST_LEAK = 3;
    private static final int MOST_RATE = 50;
    private static final int DRAWING_RATE = 10;
    private static final int MOST_ROUNDS = 50;
    private static final int MOST_SIMULATED = 99;
    private static final int MOST_FORESEEN = 100;
    private static final int LATE_TO_BANKRUPT = 3;
    private static final int SHUTTLE_DIVISOR = 20;
    private static final int MOST_COMMANDS = 3;
    private static final int GROUP = 100000;
    private static final int BANKRUPT_WEIGHT = 100000;

    private final Text text = new Text();
    private final Battery now = new Battery();
    private final History history = new History();
    private final Battery[] slots = new Battery[SLOTS];
    private final boolean[] filled = new boolean[SLOTS];
    /** What is tried out on, so that the present state keeps as it is. */
    private final Battery trial = new Battery();
    /** What a drawing in a simulation that is not possible goes back to. */
    private final Battery before = new Battery();

    public LendingCells() {
        for (int slot = 0; slot < SLOTS; slot++) {
            slots[slot] = new Battery();
        }
    }

    // ---- text

    public int append(int c) throws IllegalArgumentException, IllegalStateException {
        if (!isWithin(c, 0, MOST_SIGN)) {
            throw new IllegalArgumentException("no character code from 0 to 255");
        }
        if (text.length >= MOST_TEXT) {
            throw new IllegalStateException("the text is full");
        }
        return text.put((char) c);
    }

    public int clearText() {
        int previous = text.length;
        text.becomeEmpty();
        return previous;
    }

    public int errorPosition() {
        return text.readInto(trial);
    }

    public int load() throws IllegalStateException {
        if (text.readInto(trial) != NONE) {
            throw new IllegalStateException("the text is not a battery");
        }
        now.copyFrom(trial);
        history.forgetAll();
        for (int slot = 0; slot < SLOTS; slot++) {
            filled[slot] = false;
        }
        return now.cellCount;
    }

    // ---- what there is

    public int about(int what) throws IllegalArgumentException {
        switch (what) {
            case 0: return now.cellCount;
            case 1: return now.loanCount;
            case 2: return now.rounds;
            case 3: return now.allCharge();
            case 4: return now.putIn;
            case 5: return now.used;
            case 6: return now.heat;
            case 7: return now.allOwed();
            case 8: return now.writtenOff;
            case 9: return now.bankruptCells();
            default: throw new IllegalArgumentException("no number from 0 to 9");
        }
    }

    public int cell(int c, int what) throws IndexOutOfBoundsException, IllegalArgumentException {
        if (!now.hasCell(c)) {
            throw new IndexOutOfBoundsException("no such cell");
        }
        switch (what) {
            case 0: return now.capacities[c];
            case 1: return now.charges[c];
            case 2: return now.leaks[c];
            case 3: return now.lateRounds[c];
            case 4: return now.owedBy(c);
            case 5: return now.owedTo(c);
            case 6: return now.interestBy(c);
            case 7: return now.kindOf(c);
            default: throw new IllegalArgumentException("no number from 0 to 7");
        }
    }

    public int loan(int i, int what) throws IndexOutOfBoundsException, IllegalArgumentException {
        if (!now.hasLoan(i)) {
            throw new IndexOutOfBoundsException("no such loan");
        }
        switch (what) {
            case 0: return now.lenders[i];
            case 1: return now.borrowers[i];
            case 2: return now.owed[i];
            case 3: return now.rates[i];
            case 4: return now.interestOf(i);
            case 5: return now.arrived[i];
            default: throw new IllegalArgumentException("no number from 0 to 5");
        }
    }

    public int order(int place) throws IllegalArgumentException {
        if (place < 0) {
            throw new IllegalArgumentException("a place below 0");
        }
        return now.cellAtPlace(place);
    }

    // ---- actions

    public int addCell(int capacity, int charge, int leak) throws IllegalArgumentException, IllegalStateException {
        if (!isWithin(capacity, LEAST_CAPACITY, MOST_UNITS) || !isWithin(charge, 0, capacity)
                || !isWithin(leak, 0, MOST_LEAK)) {
            throw new IllegalArgumentException("a number of the cell is out of its range");
        }
        if (now.cellCount >= MOST_CELLS) {
            throw new IllegalStateException("there are 8 cells");
        }
        history.remember(now);
        return now.putCell(capacity, charge, leak);
    }

    public int lend(int lender, int borrower, int n, int rate)
            throws IndexOutOfBoundsException, IllegalArgumentException, IllegalStateException {
        if (!now.hasCell(lender) || !now.hasCell(borrower)) {
            throw new IndexOutOfBoundsException("no such cell");
        }
        if (lender == borrower || !isUnits(n) || !isWithin(rate, 0, MOST_RATE)) {
            throw new IllegalArgumentException("the same cell twice, or a number out of its range");
        }
        if (!now.canLend(lender, borrower, n)) {
            throw new IllegalStateException("the loan is not possible");
        }
        history.remember(now);
        return now.makeLoan(lender, borrower, n, rate);
    }

    public int repay(int i, int m) throws IndexOutOfBoundsException, IllegalArgumentException, IllegalStateException {
        if (!now.hasLoan(i)) {
            throw new IndexOutOfBoundsException("no such loan");
        }
        if (!isUnits(m)) {
            throw new IllegalArgumentException("no number from 1 to 99");
        }
        if (!now.canPayBack(i, m)) {
            throw new IllegalStateException("the repayment is not possible");
        }
        history.remember(now);
        return now.payBack(i, m);
    }

    public int setLeak(int c, int leak) throws IndexOutOfBoundsException, IllegalArgumentException {
        if (!now.hasCell(c)) {
            throw new IndexOutOfBoundsException("no such cell");
        }
        if (!isWithin(leak, 0, MOST_LEAK)) {
            throw new IllegalArgumentException("no leak from 0 to 3");
        }
        history.remember(now);
        int previous = now.leaks[c];
        now.leaks[c] = leak;
        return previous;
    }

    public int charge(int n) throws IllegalArgumentException {
        if (!isUnits(n)) {
            throw new IllegalArgumentException("no number from 1 to 99");
        }
        history.remember(now);
        return now.fillEach(n);
    }

    public int draw(int n) throws IllegalArgumentException, IllegalStateException {
        if (!isUnits(n)) {
            throw new IllegalArgumentException("no number from 1 to 99");
        }
        trial.copyFrom(now);
        int given = trial.giveEach(n);
        if (given == 0) {
            throw new IllegalStateException("nothing can be drawn");
        }
        history.remember(now);
        now.copyFrom(trial);
        return given;
    }

    public int pass(int rounds) throws IllegalArgumentException {
        if (!isWithin(rounds, 1, MOST_ROUNDS)) {
            throw new IllegalArgumentException("no number of rounds from 1 to 50");
        }
        history.remember(now);
        return now.letRoundsGoBy(rounds);
    }

    public int undo() throws IllegalStateException {
        if (history.count == 0) {
            throw new IllegalStateException("no state is remembered");
        }
        history.takeBack(now);
        return history.count;
    }

    // ---- what would be

    public int holds(int c) throws IndexOutOfBoundsException {
        if (!now.hasCell(c)) {
            throw new IndexOutOfBoundsException("no such cell");
        }
        trial.copyFrom(now);
        for (int rounds = 0; rounds <= MOST_FORESEEN; rounds++) {
            if (trial.isBankrupt(c)) {
                return rounds;
            }
            trial.letRoundGoBy();
        }
        return NONE;
    }

    public int draws(int n) throws IllegalArgumentException {
        if (!isUnits(n)) {
            throw new IllegalArgumentException("no number from 1 to 99");
        }
        trial.copyFrom(now);
        // Each drawing takes a unit or more, so that all charge there can be is the bound.
        for (int times = 0; times < MOST_CELLS * MOST_UNITS; times++) {
            if (trial.giveEach(n) == 0) {
                return times;
            }
        }
        return MOST_CELLS * MOST_UNITS;
    }

    public int most() {
        // A greater n may be possible where a smaller one is not, so each one is tried.
        for (int n = MOST_UNITS; n >= 1; n--) {
            trial.copyFrom(now);
            if (trial.giveEach(n) > 0) {
                return n;
            }
        }
        return 0;
    }

    public int bestLender(int c, int n) throws IndexOutOfBoundsException, IllegalArgumentException {
        if (!now.hasCell(c)) {
            throw new IndexOutOfBoundsException("no such cell");
        }
        if (!isUnits(n)) {
            throw new IllegalArgumentException("no number from 1 to 99");
        }
        return now.cheapestLender(c, n);
    }

    public int costs(int i, int rounds) throws IndexOutOfBoundsException, IllegalArgumentException {
        if (!now.hasLoan(i)) {
            throw new IndexOutOfBoundsException("no such loan");
        }
        if (!isWithin(rounds, 1, MOST_ROUNDS)) {
            throw new IllegalArgumentException("no number of rounds from 1 to 50");
        }
        trial.copyFrom(now);
        trial.watchedLoan = i;
        trial.letRoundsGoBy(rounds);
        return trial.watchedBurn;
    }

    // ---- scripts, simulations

    public int runScript(int n, long script) throws IllegalArgumentException {
        if (!isWithin(n, 1, MOST_COMMANDS)) {
            throw new IllegalArgumentException("no number of commands from 1 to 3");
        }
        if (script < 0 || withoutLastGroups(script, n) > 0) {
            throw new IllegalArgumentException("the script is negative or too long");
        }
        trial.copyFrom(now);
        for (int k = 0; k < n; k++) {
            long upToHere = withoutLastGroups(script, n - 1 - k);
            if (!succeeds(trial, (int) (upToHere % GROUP))) {
                return k;
            }
        }
        return NONE;
    }

    public int simulate(long seed, int m) throws IllegalArgumentException {
        if (!isWithin(m, 1, MOST_SIMULATED)) {
            throw new IllegalArgumentException("no number of rounds from 1 to 99");
        }
        trial.copyFrom(now);
        long x = seed;
        int fallen = 0;
        for (int k = 0; k < m; k++) {
            x = x * 6364136223846793005L + 1442695040888963407L;
            int r = (int) (x >>> 33);
            int n = 1 + r / 4 % 9;
            if (r % 4 == 0) {
                trial.fillEach(n);
            } else if (r % 4 != 3) {
                giveIfPossible(n);
            }
            fallen += Integer.bitCount(trial.letRoundGoBy());
        }
        return BANKRUPT_WEIGHT * fallen + (trial.used - now.used);
    }

    // ---- save slots

    public int save(int slot) throws IndexOutOfBoundsException {
        if (!isWithin(slot, 0, SLOTS - 1)) {
            throw new IndexOutOfBoundsException("no such save slot");
        }
        slots[slot].copyFrom(now);
        filled[slot] = true;
        return now.allCharge();
    }

    public int restore(int slot) throws IndexOutOfBoundsException, IllegalStateException {
        if (!isWithin(slot, 0, SLOTS - 1)) {
            throw new IndexOutOfBoundsException("no such save slot");
        }
        if (!filled[slot]) {
            throw new IllegalStateException("nothing has been saved in the slot");
        }
        now.copyFrom(slots[slot]);
        history.forgetAll();
        return now.allCharge();
    }

    // ---- behind the face

    private static boolean isWithin(int number, int least, int most) {
        return number >= least && number <= most;
    }

    private static boolean isUnits(int n) {
        return isWithin(n, 1, MOST_UNITS);
    }

    private static long withoutLastGroups(long script, int groups) {
        long rest = script;
        for (int k = 0; k < groups; k++) {
            rest = rest / GROUP;
        }
        return rest;
    }

    /** A drawing that fails midway leaves loans behind, which must not stay. */
    private void giveIfPossible(int n) {
        before.copyFrom(trial);
        if (trial.giveEach(n) == 0) {
            trial.copyFrom(before);
        }
    }

    /** Runs the command of a group of five digits; one that fails may leave the battery half changed. */
    private static boolean succeeds(Battery battery, int group) {
        int second = group / 1000 % 10;
        int third = group / 100 % 10;
        int fourth = group / 10 % 10;
        int units = group % 100;
        boolean plain = second == 0 && third == 0;
        switch (group / 10000) {
            case 1:
                return isUnits(units) && battery.makeLoan(second, third, units, DRAWING_RATE) != NONE;
            case 2:
                return isUnits(units) && battery.payBack(group / 100 % 100, units) != NONE;
            case 3:
                return plain && isUnits(units) && battery.fillEach(units) != NONE;
            case 4:
                return plain && isUnits(units) && battery.giveEach(units) > 0;
            case 5:
                return plain && isWithin(units, 1, MOST_ROUNDS) && battery.letRoundsGoBy(units) != NONE;
            case 6:
                return third == 0 && battery.hasCell(second) && battery.chargeOf(second) >= units;
            case 7:
                return third == 0 && fourth == 0 && battery.hasCell(second) && battery.kindOf(second) == units;
            case 8:
                return second == 0 && battery.allOwed() <= group % 1000;
            case 9:
                return plain && fourth == 0 && Integer.bitCount(battery.bankruptCells()) <= units;
            default:
                return false;
        }
    }

    /** A state: cells, loans and the account of all charge. */
    private static final class Battery {
        final int[] capacities = new int[MOST_CELLS];
        final int[] charges = new int[MOST_CELLS];
        final int[] leaks = new int[MOST_CELLS];
        /** A cell is bankrupt from the time that it is late for 3 rounds, and then stays so. */
        final int[] lateRounds = new int[MOST_CELLS];
        final int[] lenders = new int[MOST_LOANS];
        final int[] borrowers = new int[MOST_LOANS];
        final int[] owed = new int[MOST_LOANS];
        final int[] rates = new int[MOST_LOANS];
        final int[] arrived = new int[MOST_LOANS];
        int cellCount;
        int loanCount;
        int rounds;
        int putIn;
        int used;
        int heat;
        int writtenOff;
        /** The loan whose burnt interest is counted in watchedBurn; its number falls when loans ahead are gone. */
        int watchedLoan = NONE;
        int watchedBurn;

        void becomeEmpty() {
            cellCount = 0;
            loanCount = 0;
            rounds = 0;
            putIn = 0;
            used = 0;
            heat = 0;
            writtenOff = 0;
            watchedLoan = NONE;
            watchedBurn = 0;
        }

        void copyFrom(Battery other) {
            System.arraycopy(other.capacities, 0, capacities, 0, MOST_CELLS);
            System.arraycopy(other.charges, 0, charges, 0, MOST_CELLS);
            System.arraycopy(other.leaks, 0, leaks, 0, MOST_CELLS);
            System.arraycopy(other.lateRounds, 0, lateRounds, 0, MOST_CELLS);
            System.arraycopy(other.lenders, 0, lenders, 0, MOST_LOANS);
            System.arraycopy(other.borrowers, 0, borrowers, 0, MOST_LOANS);
            System.arraycopy(other.owed, 0, owed, 0, MOST_LOANS);
            System.arraycopy(other.rates, 0, rates, 0, MOST_LOANS);
            System.arraycopy(other.arrived, 0, arrived, 0, MOST_LOANS);
            cellCount = other.cellCount;
            loanCount = other.loanCount;
            rounds = other.rounds;
            putIn = other.putIn;
            used = other.used;
            heat = other.heat;
            writtenOff = other.writtenOff;
            watchedLoan = NONE;
            watchedBurn = 0;
        }

        boolean hasCell(int c) {
            return c >= 0 && c < cellCount;
        }

        boolean hasLoan(int i) {
            return i >= 0 && i < loanCount;
        }

        boolean isBankrupt(int c) {
            return c >= 0 && c < cellCount && lateRounds[c] >= LATE_TO_BANKRUPT;
        }

        int chargeOf(int c) {
            return hasCell(c) ? charges[c] : 0;
        }

        int roomOf(int c) {
            return hasCell(c) ? capacities[c] - charges[c] : 0;
        }

        int allCharge() {
            int sum = 0;
            for (int c = 0; c < cellCount; c++) {
                sum += charges[c];
            }
            return sum;
        }

        int allOwed() {
            int sum = 0;
            for (int i = 0; i < loanCount; i++) {
                sum += owed[i];
            }
            return sum;
        }

        int bankruptCells() {
            int bits = 0;
            for (int c = 0; c < cellCount; c++) {
                if (isBankrupt(c)) {
                    bits |= 1 << c;
                }
            }
            return bits;
        }

        int owedBy(int c) {
            int sum = 0;
            for (int i = 0; i < loanCount; i++) {
                if (borrowers[i] == c) {
                    sum += owed[i];
                }
            }
            return sum;
        }

        int owedTo(int c) {
            int sum = 0;
            for (int i = 0; i < loanCount; i++) {
                if (lenders[i] == c) {
                    sum += owed[i];
                }
            }
            return sum;
        }

        int interestOf(int i) {
            return hasLoan(i) ? (owed[i] * rates[i] + 99) / 100 : 0;
        }

        int interestBy(int c) {
            int sum = 0;
            for (int i = 0; i < loanCount; i++) {
                if (borrowers[i] == c) {
                    sum += interestOf(i);
                }
            }
            return sum;
        }

        int kindOf(int c) {
            if (isBankrupt(c)) {
                return 3;
            }
            if (hasCell(c) && lateRounds[c] > 0) {
                return 2;
            }
            return owedBy(c) > 0 ? 1 : 0;
        }

        int cellAtPlace(int place) {
            for (int c = 0; c < cellCount; c++) {
                if (!isBankrupt(c) && placeOf(c) == place) {
                    return c;
                }
            }
            return NONE;
        }

        int placeOf(int c) {
            int ahead = 0;
            for (int other = 0; other < cellCount; other++) {
                boolean isAhead = charges[other] > chargeOf(c) || charges[other] == chargeOf(c) && other < c;
                if (isAhead && !isBankrupt(other)) {
                    ahead++;
                }
            }
            return ahead;
        }

        int putCell(int capacity, int charge, int leak) {
            if (cellCount >= MOST_CELLS) {
                return NONE;
            }
            int c = cellCount;
            capacities[c] = capacity;
            charges[c] = charge;
            leaks[c] = leak;
            lateRounds[c] = 0;
            putIn += charge;
            cellCount++;
            return c;
        }

        // ---- shuttles and loans

        int arriving(int n, int from, int to) {
            int distance = from < to ? to - from : from - to;
            return n - n * distance / SHUTTLE_DIVISOR;
        }

        /** The smallest size of a shuttle with which so many units, 1 or more, arrive. */
        int sizeToBring(int units, int from, int to) {
            // At the longest distance, 7, less than half gets lost, so that twice as many are always enough.
            for (int size = units; size < 2 * units; size++) {
                if (arriving(size, from, to) >= units) {
                    return size;
                }
            }
            return 2 * units;
        }

        /** Moves the units and answers how many arrive. */
        int shuttle(int n, int from, int to) {
            if (!hasCell(from) || !hasCell(to)) {
                return 0;
            }
            int arrive = arriving(n, from, to);
            charges[from] -= n;
            charges[to] += arrive;
            heat += n - arrive;
            return arrive;
        }

        boolean canLend(int lender, int borrower, int n) {
            if (!hasCell(lender) || !hasCell(borrower) || lender == borrower) {
                return false;
            }
            if (isBankrupt(lender) || isBankrupt(borrower) || loanCount >= MOST_LOANS) {
                return false;
            }
            return chargeOf(lender) >= n && arriving(n, lender, borrower) <= roomOf(borrower);
        }

        /** Makes the loan and answers how much arrives; NONE if it is not possible. */
        int makeLoan(int lender, int borrower, int n, int rate) {
            if (loanCount >= MOST_LOANS || !canLend(lender, borrower, n)) {
                return NONE;
            }
            int i = loanCount;
            lenders[i] = lender;
            borrowers[i] = borrower;
            owed[i] = n;
            rates[i] = rate;
            arrived[i] = shuttle(n, lender, borrower);
            loanCount++;
            return arrived[i];
        }

        boolean canPayBack(int i, int m) {
            if (!hasLoan(i) || owed[i] < m || chargeOf(borrowers[i]) < m) {
                return false;
            }
            return arriving(m, borrowers[i], lenders[i]) <= roomOf(lenders[i]);
        }

        /** Pays units back and answers what is owed then; NONE if it is not possible. */
        int payBack(int i, int m) {
            if (!hasLoan(i) || !canPayBack(i, m)) {
                return NONE;
            }
            shuttle(m, borrowers[i], lenders[i]);
            owed[i] -= m;
            int rest = owed[i];
            if (rest == 0) {
                removeLoan(i);
            }
            return rest;
        }

        void removeLoan(int gone) {
            if (gone < 0 || gone >= loanCount) {
                return;
            }
            for (int i = gone + 1; i < loanCount; i++) {
                lenders[i - 1] = lenders[i];
                borrowers[i - 1] = borrowers[i];
                owed[i - 1] = owed[i];
                rates[i - 1] = rates[i];
                arrived[i - 1] = arrived[i];
            }
            loanCount--;
            if (watchedLoan == gone) {
                watchedLoan = NONE;
            } else if (watchedLoan > gone) {
                watchedLoan--;
            }
        }

        /** The other cell that brings so many units with the smallest loan; NONE if there is none. */
        int cheapestLender(int c, int n) {
            if (isBankrupt(c) || roomOf(c) < n) {
                return NONE;
            }
            int best = NONE;
            int bestSize = 0;
            for (int other = 0; other < cellCount; other++) {
                int size = sizeToBring(n, other, c);
                if (other == c || isBankrupt(other) || charges[other] < size) {
                    continue;
                }
                boolean isBetter = size < bestSize || size == bestSize && charges[other] > chargeOf(best);
                if (best == NONE || isBetter) {
                    best = other;
                    bestSize = size;
                }
            }
            return best;
        }

        // ---- charging and drawing

        /** Puts units into each cell and answers how much of it becomes heat. */
        int fillEach(int n) {
            int tooMuch = 0;
            for (int c = 0; c < cellCount; c++) {
                if (!isBankrupt(c)) {
                    int kept = Math.min(n, roomOf(c));
                    charges[c] += kept;
                    putIn += n;
                    tooMuch += n - kept;
                }
            }
            heat += tooMuch;
            return tooMuch;
        }

        /** Draws and answers how much is used; 0 if it is not possible, with loans perhaps made already. */
        int giveEach(int n) {
            for (int c = 0; c < cellCount; c++) {
                if (!isBankrupt(c) && charges[c] < n && !borrowUpTo(c, n)) {
                    return 0;
                }
            }
            int given = 0;
            for (int c = 0; c < cellCount; c++) {
                if (!isBankrupt(c)) {
                    charges[c] -= n;
                    given += n;
                }
            }
            used += given;
            return given;
        }

        /** Borrows what the cell lacks to have n. If its capacity is less than n, this is too much for it. */
        boolean borrowUpTo(int c, int n) {
            int lender = fullestOther(c);
            if (lender == NONE) {
                return false;
            }
            int size = sizeToBring(n - chargeOf(c), lender, c);
            return chargeOf(lender) - size >= n && makeLoan(lender, c, size, DRAWING_RATE) != NONE;
        }

        int fullestOther(int c) {
            int fullest = NONE;
            for (int other = 0; other < cellCount; other++) {
                if (other == c || isBankrupt(other)) {
                    continue;
                }
                if (fullest == NONE || charges[other] > chargeOf(fullest)) {
                    fullest = other;
                }
            }
            return fullest;
        }

        // ---- a round

        /** Answers the cells that become bankrupt, as bits. */
        int letRoundsGoBy(int number) {
            int fallen = 0;
            for (int k = 0; k < number; k++) {
                fallen |= letRoundGoBy();
            }
            return fallen;
        }

        int letRoundGoBy() {
            leakAll();
            int missed = burnInterest();
            int fallen = countLateRounds(missed);
            rounds++;
            return fallen;
        }

        void leakAll() {
            for (int c = 0; c < cellCount; c++) {
                // A bankrupt cell has no charge to lose.
                loseAsHeat(c, Math.min(leaks[c], charges[c]));
            }
        }

        void loseAsHeat(int c, int n) {
            if (hasCell(c)) {
                charges[c] -= n;
                heat += n;
            }
        }

        /** Answers the borrowers of missed loans, as bits, which outlast the loans themselves. */
        int burnInterest() {
            int missed = 0;
            for (int i = 0; i < loanCount; i++) {
                int interest = interestOf(i);
                int burnt = Math.min(interest, chargeOf(borrowers[i]));
                loseAsHeat(borrowers[i], burnt);
                if (burnt < interest) {
                    missed |= 1 << borrowers[i];
                }
                if (i == watchedLoan) {
                    watchedBurn += burnt;
                }
            }
            return missed;
        }

        int countLateRounds(int missed) {
            int fallen = 0;
            for (int c = 0; c < cellCount; c++) {
                if (isBankrupt(c)) {
                    continue;
                }
                boolean isMissed = (missed & 1 << c) != 0;
                lateRounds[c] = isMissed ? lateRounds[c] + 1 : 0;
                if (isBankrupt(c)) {
                    shareOut(c);
                    dropLoansOf(c);
                    fallen |= 1 << c;
                }
            }
            return fallen;
        }

        /**
         * Parts what a cell that became bankrupt has left among its lenders; the rest becomes heat. Unlike
         * a shuttle, a share loses nothing by its way. (By the rules of a round, a cell that missed a loan
         * has no charge left, so that the shares are always 0.)
         */
        void shareOut(int c) {
            if (!hasCell(c)) {
                return;
            }
            int left = chargeOf(c);
            int debt = owedBy(c);
            for (int i = 0; i < loanCount; i++) {
                int lender = lenders[i];
                if (borrowers[i] == c && hasCell(lender) && debt > 0) {
                    int share = left * owed[i] / debt;
                    int kept = Math.min(share, roomOf(lender));
                    charges[lender] += kept;
                    heat += share - kept;
                    charges[c] -= share;
                }
            }
            loseAsHeat(c, chargeOf(c));
        }

        void dropLoansOf(int c) {
            for (int i = loanCount - 1; i >= 0; i--) {
                if (lenders[i] == c || borrowers[i] == c) {
                    writtenOff += owed[i];
                    removeLoan(i);
                }
            }
        }
    }

    /** The states before the last actions, the oldest one first, in a ring. */
    private static final class History {
        private final Battery[] states = new Battery[MOST_REMEMBERED];
        private int first;
        private int count;

        History() {
            for (int k = 0; k < MOST_REMEMBERED; k++) {
                states[k] = new Battery();
            }
        }

        void remember(Battery state) {
            states[(first + count) % MOST_REMEMBERED].copyFrom(state);
            if (count < MOST_REMEMBERED) {
                count++;
            } else {
                first = (first + 1) % MOST_REMEMBERED;
            }
        }

        void takeBack(Battery into) {
            if (count > 0) {
                count--;
                into.copyFrom(states[(first + count) % MOST_REMEMBERED]);
            }
        }

        void forgetAll() {
            count = 0;
        }
    }

    /** The text buffer, and the reading of a battery from it. */
    private static final class Text {
        private final char[] signs = new char[MOST_TEXT];
        private int length;
        /** Where the reading is; it stays at the first character that is not allowed. */
        private int at;

        int put(char sign) {
            if (length < MOST_TEXT) {
                signs[length] = sign;
                length++;
            }
            return length;
        }

        void becomeEmpty() {
            length = 0;
        }

        /** Reads the whole text into the battery and answers the error position; NONE if there is none. */
        int readInto(Battery told) {
            told.becomeEmpty();
            at = 0;
            if (!isAt('B')) {
                return at;
            }
            at++;
            // A part that is read takes a character or more, so that the parts are fewer than MOST_TEXT.
            for (int part = 0; part < MOST_TEXT && at < length; part++) {
                if (!readPart(told)) {
                    return at;
                }
            }
            return NONE;
        }

        private boolean readPart(Battery told) {
            if (isAt('c')) {
                return readCell(told);
            }
            return isAt('l') && readLoan(told);
        }

        private boolean readCell(Battery told) {
            if (told.cellCount >= MOST_CELLS) {
                return false;
            }
            at++;
            int capacity = readNumber(LEAST_CAPACITY, MOST_UNITS);
            if (capacity == NONE) {
                return false;
            }
            int charge = readNumber(0, capacity);
            if (charge == NONE) {
                return false;
            }
            int leak = readDigit(0, MOST_LEAK);
            return leak != NONE && told.putCell(capacity, charge, leak) != NONE;
        }

        private boolean readLoan(Battery told) {
            if (told.cellCount < 2 || told.loanCount >= MOST_LOANS) {
                return false;
            }
            int start = at;
            at++;
            int lender = digitHere();
            if (told.chargeOf(lender) == 0) {
                return false;
            }
            at++;
            int borrower = digitHere();
            if (!told.hasCell(borrower) || borrower == lender) {
                return false;
            }
            at++;
            int size = readNumber(1, told.chargeOf(lender));
            if (size == NONE) {
                return false;
            }
            int rate = readNumber(0, MOST_RATE);
            if (rate == NONE) {
                return false;
            }
            if (told.makeLoan(lender, borrower, size, rate) == NONE) {
                // What arrives is too much: the fault is the whole loan's, not its last digit's.
                at = start;
                return false;
            }
            return true;
        }

        /** Reads two digits; both bounds are from 0 to 99. */
        private int readNumber(int least, int most) {
            int tens = readDigit(least / 10, most / 10);
            if (tens == NONE) {
                return NONE;
            }
            int ones = readDigit(tens == least / 10 ? least % 10 : 0, tens == most / 10 ? most % 10 : 9);
            return ones == NONE ? NONE : 10 * tens + ones;
        }

        private int readDigit(int least, int most) {
            int digit = digitHere();
            if (digit == NONE || !isWithin(digit, least, most)) {
                return NONE;
            }
            at++;
            return digit;
        }

        private int digitHere() {
            boolean isDigit = at < length && signs[at] >= '0' && signs[at] <= '9';
            return isDigit ? signs[at] - '0' : NONE;
        }

        private boolean isAt(char sign) {
            return at < length && signs[at] == sign;
        }
    }
}
