/** A bus on which masters pay with future turns. The document's promises are named by number. */
public final class TurnBus {
    public static final int NONE = -9;

    private static final int FEWEST_MASTERS = 2;
    private static final int MOST_MASTERS = 6;
    private static final int FEWEST_SLOTS = 2;
    private static final int MOST_SLOTS = 16;
    private static final int SLAVES = 4;
    private static final int MOST_BURSTS = 6;
    private static final int MOST_WORDS = 8;
    private static final int FIRST_LATENCY = 2;
    private static final int MOST_LATENCY = 9;
    private static final int FIRST_CREDIT = 4;
    private static final int MOST_CREDIT = 9;
    private static final int MOST_TEXT = 120;
    private static final int MOST_REMEMBERED = 14;
    private static final int SAVE_SLOTS = 2;
    private static final int MOST_PASS = 99;
    private static final int MOST_SIMULATED = 200;
    private static final int HORIZON = 400;
    private static final int MOST_COMMANDS = 3;
    private static final int GROUP = 100000;

    // A master sends a word only while none of its answers is ready, so the answers for it
    // that are not taken were asked for in different ticks, none longer ago than a latency.
    private static final int MOST_ANSWERS = MOST_LATENCY + 1;

    private final BusText text = new BusText();
    private final Bus present = new Bus();
    private final History history = new History();
    private final Bus[] saved = new Bus[SAVE_SLOTS];
    private final boolean[] isSaved = new boolean[SAVE_SLOTS];
    // Rows for what would be: made once, as no call may make a state anew.
    private final Bus trial = new Bus();
    private final Bus probe = new Bus();

    /** Promise 1. */
    public TurnBus() {
        for (int i = 0; i < SAVE_SLOTS; i++) {
            saved[i] = new Bus();
        }
    }

    // ---- text

    /** Promise 2. */
    public int append(int c) throws IllegalArgumentException, IllegalStateException {
        if (c < 0 || c > 255) {
            throw new IllegalArgumentException("no such character");
        }
        if (text.isFull()) {
            throw new IllegalStateException("the text is full");
        }
        return text.add((char) c);
    }

    /** Promise 3. */
    public int clearText() {
        return text.empty();
    }

    /** Promise 4. */
    public int errorPosition() {
        return text.readInto(trial);
    }

    /** Promise 5. */
    public int load() throws IllegalStateException {
        if (text.readInto(trial) != NONE) {
            throw new IllegalStateException("the text is not a bus");
        }
        present.copyFrom(trial);
        history.empty();
        for (int i = 0; i < SAVE_SLOTS; i++) {
            isSaved[i] = false;
        }
        return present.waitingBursts();
    }

    // ---- what there is

    /** Promise 6. */
    public int about(int what) throws IllegalArgumentException {
        switch (what) {
            case 0: return present.masters;
            case 1: return present.slots;
            case 2: return present.ticks;
            case 3: return present.idle;
            case 4: return present.credit;
            case 5: return present.allDebts();
            case 6: return present.waitingBursts();
            case 7: return present.openAnswers();
            case 8: return present.lastTurn;
            case 9: return present.bankruptBits();
            default: throw new IllegalArgumentException("no such number");
        }
    }

    /** Promise 7. */
    public int master(int m, int what) throws IndexOutOfBoundsException, IllegalArgumentException {
        needMaster(m);
        Master row = present.rows[m];
        switch (what) {
            case 0: return present.slotsOf(m);
            case 1: return row.debts();
            case 2: return present.owedTo(m);
            case 3: return row.bursts.count;
            case 4: return row.bursts.allWords();
            case 5: return row.waited;
            case 6: return row.longest;
            case 7: return row.ownTurns;
            case 8: return row.paidTurns;
            case 9: return row.creditTurns;
            case 10: return row.answersTaken;
            default: throw new IllegalArgumentException("no such number of a master");
        }
    }

    /** Promise 8. */
    public int owner(int s) throws IndexOutOfBoundsException {
        needSlot(s);
        return present.ownerOf[s];
    }

    /** Promise 9. */
    public int owes(int a, int b) throws IndexOutOfBoundsException {
        needMaster(a);
        needMaster(b);
        return present.rows[a].debtTo[b];
    }

    /** Promise 10. */
    public int burst(int m, int i, int what) throws IndexOutOfBoundsException, IllegalArgumentException {
        needMaster(m);
        if (i < 0 || what < 0 || what > 2) {
            throw new IllegalArgumentException("no such place or number of a burst");
        }
        Bursts bursts = present.rows[m].bursts;
        if (i >= bursts.count || i >= MOST_BURSTS) {
            return NONE;
        }
        if (what == 0) {
            return bursts.slave[i];
        }
        if (what == 1) {
            return bursts.words[i];
        }
        return bursts.asks[i] ? 1 : 0;
    }

    /** Promise 11. */
    public int order(int place) throws IllegalArgumentException {
        if (place < 0) {
            throw new IllegalArgumentException("no such place");
        }
        for (int m = 0; m < present.masters; m++) {
            if (present.mastersAhead(m) == place) {
                return m;
            }
        }
        return NONE;
    }

    // ---- actions

    /** Promise 12. */
    public int addMaster() throws IllegalStateException {
        if (present.masters >= MOST_MASTERS) {
            throw new IllegalStateException("there are as many masters as there may be");
        }
        history.remember(present);
        return present.join();
    }

    /** Promise 13. */
    public int give(int s, int m) throws IndexOutOfBoundsException, IllegalStateException {
        needSlot(s);
        needMaster(m);
        if (present.rows[m].bankrupt) {
            throw new IllegalStateException("the master is bankrupt");
        }
        history.remember(present);
        int previous = present.ownerOf[s];
        present.ownerOf[s] = m;
        return previous;
    }

    /** Promise 14. */
    public int setLatency(int slave, int latency) throws IndexOutOfBoundsException, IllegalArgumentException {
        needSlave(slave);
        if (latency < 0 || latency > MOST_LATENCY) {
            throw new IllegalArgumentException("no such latency");
        }
        history.remember(present);
        int previous = present.latencyOf[slave];
        present.latencyOf[slave] = latency;
        return previous;
    }

    /** Promise 15. */
    public int setCredit(int credit) throws IllegalArgumentException {
        if (credit < 0 || credit > MOST_CREDIT) {
            throw new IllegalArgumentException("no such credit");
        }
        history.remember(present);
        int previous = present.credit;
        present.credit = credit;
        return previous;
    }

    /** Promise 16. */
    public int send(int m, int slave, int words, boolean asks)
            throws IndexOutOfBoundsException, IllegalArgumentException, IllegalStateException {
        needMaster(m);
        needSlave(slave);
        if (words < 1 || words > MOST_WORDS) {
            throw new IllegalArgumentException("no such number of words");
        }
        Master row = present.rows[m];
        if (!row.takesBursts()) {
            throw new IllegalStateException("the master gets no more bursts");
        }
        history.remember(present);
        row.bursts.add(slave, words, asks);
        return row.bursts.count;
    }

    /** Promise 17. */
    public int pass(int ticks) throws IllegalArgumentException {
        if (ticks < 1 || ticks > MOST_PASS) {
            throw new IllegalArgumentException("no such number of ticks");
        }
        history.remember(present);
        int idleBefore = present.idle;
        present.stepTimes(ticks);
        return ticks - (present.idle - idleBefore);
    }

    /** Promise 18. */
    public int forgive(int a, int b) throws IndexOutOfBoundsException {
        needMaster(a);
        needMaster(b);
        history.remember(present);
        int forgiven = present.rows[a].debtTo[b];
        present.rows[a].debtTo[b] = 0;
        return forgiven;
    }

    /** Promise 19. */
    public int undo() throws IllegalStateException {
        if (history.count < 1) {
            throw new IllegalStateException("no state is remembered");
        }
        history.takeBack(present);
        return history.count;
    }

    // ---- what would be

    /** Promise 20. */
    public int turnIn(int ticks) throws IllegalArgumentException {
        if (ticks < 0 || ticks > MOST_PASS) {
            throw new IllegalArgumentException("no such number of ticks");
        }
        trial.copyFrom(present);
        trial.stepTimes(ticks + 1);
        return trial.lastTurn;
    }

    /** Promise 21. */
    public int doneIn(int m) throws IndexOutOfBoundsException {
        needMaster(m);
        trial.copyFrom(present);
        int ticks = trial.stepsTillDone(m, m, HORIZON);
        return ticks > HORIZON ? NONE : ticks;
    }

    /** Promise 22. */
    public int bestCredit() {
        int best = 0;
        int fewest = HORIZON + 1;
        for (int credit = 0; credit <= MOST_CREDIT; credit++) {
            trial.copyFrom(present);
            trial.credit = credit;
            int ticks = trial.stepsTillDone(0, trial.masters - 1, fewest - 1);
            if (ticks < fewest) {
                fewest = ticks;
                best = credit;
            }
        }
        return best;
    }

    /** Promise 23. */
    public int bestSlot(int m) throws IndexOutOfBoundsException {
        needMaster(m);
        if (present.rows[m].bankrupt) {
            return NONE;
        }
        int best = 0;
        int fewest = HORIZON + 1;
        for (int s = 0; s < present.slots; s++) {
            trial.copyFrom(present);
            trial.ownerOf[s] = m;
            int ticks = trial.stepsTillDone(m, m, fewest - 1);
            if (ticks < fewest) {
                fewest = ticks;
                best = s;
            }
        }
        return best;
    }

    // ---- scripts, simulations

    /** Promise 24. */
    public int runScript(int n, long script) throws IllegalArgumentException {
        if (n < 1 || n > MOST_COMMANDS || script < 0 || withoutGroups(script, n) != 0) {
            throw new IllegalArgumentException("no such script");
        }
        trial.copyFrom(present);
        for (int i = 0; i < n; i++) {
            int group = (int) (withoutGroups(script, n - 1 - i) % GROUP);
            if (!succeeds(group)) {
                return i;
            }
        }
        return NONE;
    }

    /** Promise 25. */
    public int simulate(long seed, int m) throws IllegalArgumentException {
        if (m < 1 || m > MOST_SIMULATED) {
            throw new IllegalArgumentException("no such number of ticks");
        }
        trial.copyFrom(present);
        int idleBefore = trial.idle;
        long x = seed;
        for (int i = 0; i < m; i++) {
            x = x * 6364136223846793005L + 1442695040888963407L;
            drawBurst((int) (x >>> 33));
            trial.step();
        }
        return 1000 * (trial.idle - idleBefore) + 10 * trial.waitingBursts()
                + Integer.bitCount(trial.bankruptBits());
    }

    // ---- save slots

    /** Promise 26. */
    public int save(int slot) throws IndexOutOfBoundsException {
        needSaveSlot(slot);
        saved[slot].copyFrom(present);
        isSaved[slot] = true;
        return present.ticks;
    }

    /** Promise 27. */
    public int restore(int slot) throws IndexOutOfBoundsException, IllegalStateException {
        needSaveSlot(slot);
        if (!isSaved[slot]) {
            throw new IllegalStateException("nothing is saved there");
        }
        present.copyFrom(saved[slot]);
        history.empty();
        return present.ticks;
    }

    // ---- what must exist

    private void needMaster(int m) {
        if (!present.hasMaster(m)) {
            throw new IndexOutOfBoundsException("no such master");
        }
    }

    private void needSlot(int s) {
        if (!present.hasSlot(s)) {
            throw new IndexOutOfBoundsException("no such slot");
        }
    }

    private void needSlave(int slave) {
        if (slave < 0 || slave >= SLAVES) {
            throw new IndexOutOfBoundsException("no such slave");
        }
    }

    private void needSaveSlot(int slot) {
        if (slot < 0 || slot >= SAVE_SLOTS) {
            throw new IndexOutOfBoundsException("no such save slot");
        }
    }

    // ---- one command of a script, on the trial

    private static long withoutGroups(long script, int groups) {
        long rest = script;
        for (int i = 0; i < groups; i++) {
            rest = rest / GROUP;
        }
        return rest;
    }

    private boolean succeeds(int group) {
        int d2 = group / 1000 % 10;
        int d3 = group / 100 % 10;
        int d4 = group / 10 % 10;
        int d5 = group % 10;
        int xy = 10 * d4 + d5;
        switch (group / 10000) {
            case 1:
                if (d2 != 0 || d3 != 0 || xy < 1) {
                    return false;
                }
                trial.stepTimes(xy);
                return true;
            case 2: return d5 <= 1 && runsSend(d2, d3, d4, d5 == 1);
            case 3: return d5 == 0 && runsGive(10 * d2 + d3, d4);
            case 4: return xy == 0 && runsForgive(d2, d3);
            case 5:
                if (d3 != 0 || xy != 0) {
                    return false;
                }
                trial.credit = d2;
                return true;
            case 6: return d3 == 0 && trial.hasMaster(d2) && trial.rows[d2].debts() <= xy;
            case 7: return d3 == 0 && trial.hasMaster(d2) && trial.rows[d2].waited <= xy;
            case 8: return d3 == 0 && d4 == 0 && d5 <= 1 && trial.hasMaster(d2)
                    && trial.rows[d2].bankrupt == (d5 == 1);
            case 9:
                if (d3 != 0 || !trial.hasMaster(d2)) {
                    return false;
                }
                probe.copyFrom(trial);
                return probe.stepsTillDone(d2, d2, xy) <= xy;
            default: return false;
        }
    }

    private boolean runsSend(int m, int slave, int words, boolean asks) {
        if (!trial.hasMaster(m) || slave >= SLAVES || words < 1 || words > MOST_WORDS
                || !trial.rows[m].takesBursts()) {
            return false;
        }
        trial.rows[m].bursts.add(slave, words, asks);
        return true;
    }

    private boolean runsGive(int s, int m) {
        if (!trial.hasSlot(s) || !trial.hasMaster(m) || trial.rows[m].bankrupt) {
            return false;
        }
        trial.ownerOf[s] = m;
        return true;
    }

    private boolean runsForgive(int a, int b) {
        if (!trial.hasMaster(a) || !trial.hasMaster(b)) {
            return false;
        }
        trial.rows[a].debtTo[b] = 0;
        return true;
    }

    // ---- one draw of a simulation, on the trial

    private void drawBurst(int r) {
        if (r < 0 || r % 3 != 0 || trial.masters < 1) {
            return;
        }
        Master row = trial.rows[r / 4 % trial.masters];
        if (row.takesBursts()) {
            row.bursts.add(r / 64 % SLAVES, 1 + r / 256 % MOST_WORDS, r / 2048 % 2 == 1);
        }
    }

    /** The bursts of a master that wait, the first one at the place 0. */
    private static final class Bursts {
        int count;
        final int[] slave = new int[MOST_BURSTS];
        final int[] words = new int[MOST_BURSTS];
        final boolean[] asks = new boolean[MOST_BURSTS];

        void copyFrom(Bursts other) {
            count = other.count;
            for (int i = 0; i < count && i < MOST_BURSTS; i++) {
                slave[i] = other.slave[i];
                words[i] = other.words[i];
                asks[i] = other.asks[i];
            }
        }

        boolean isFull() {
            return count >= MOST_BURSTS;
        }

        void add(int itsSlave, int itsWords, boolean itAsks) {
            if (count < 0 || count >= MOST_BURSTS) {
                return;
            }
            slave[count] = itsSlave;
            words[count] = itsWords;
            asks[count] = itAsks;
            count++;
        }

        int allWords() {
            int sum = 0;
            for (int i = 0; i < count && i < MOST_BURSTS; i++) {
                sum += words[i];
            }
            return sum;
        }

        void removeFirst() {
            for (int i = 1; i < count && i < MOST_BURSTS; i++) {
                slave[i - 1] = slave[i];
                words[i - 1] = words[i];
                asks[i - 1] = asks[i];
            }
            count--;
        }
    }

    /** The answers for a master that are not taken yet, in the order in which they were asked for. */
    private static final class Answers {
        int count;
        final int[] readyFrom = new int[MOST_ANSWERS];

        void copyFrom(Answers other) {
            count = other.count;
            for (int i = 0; i < count && i < MOST_ANSWERS; i++) {
                readyFrom[i] = other.readyFrom[i];
            }
        }

        void add(int tick) {
            if (count < 0 || count >= MOST_ANSWERS) {
                return;
            }
            readyFrom[count] = tick;
            count++;
        }

        int firstReady(int tick) {
            for (int i = 0; i < count && i < MOST_ANSWERS; i++) {
                if (readyFrom[i] <= tick) {
                    return i;
                }
            }
            return NONE;
        }

        void remove(int place) {
            if (place < 0 || place >= count) {
                return;
            }
            for (int i = place + 1; i < count && i < MOST_ANSWERS; i++) {
                readyFrom[i - 1] = readyFrom[i];
            }
            count--;
        }
    }

    /** What is known of one master. */
    private static final class Master {
        final int[] debtTo = new int[MOST_MASTERS];
        final Bursts bursts = new Bursts();
        final Answers answers = new Answers();
        boolean bankrupt;
        // Whether it has something to do in the tick that goes by; no part of the state.
        boolean busy;
        int waited;
        int longest;
        int ownTurns;
        int paidTurns;
        int creditTurns;
        int answersTaken;

        void makeNew() {
            forgetDebts();
            bursts.count = 0;
            answers.count = 0;
            bankrupt = false;
            waited = 0;
            longest = 0;
            ownTurns = 0;
            paidTurns = 0;
            creditTurns = 0;
            answersTaken = 0;
        }

        void copyFrom(Master other) {
            for (int b = 0; b < MOST_MASTERS; b++) {
                debtTo[b] = other.debtTo[b];
            }
            bursts.copyFrom(other.bursts);
            answers.copyFrom(other.answers);
            bankrupt = other.bankrupt;
            waited = other.waited;
            longest = other.longest;
            ownTurns = other.ownTurns;
            paidTurns = other.paidTurns;
            creditTurns = other.creditTurns;
            answersTaken = other.answersTaken;
        }

        int debts() {
            int sum = 0;
            for (int b = 0; b < MOST_MASTERS; b++) {
                sum += debtTo[b];
            }
            return sum;
        }

        void forgetDebts() {
            for (int b = 0; b < MOST_MASTERS; b++) {
                debtTo[b] = 0;
            }
        }

        boolean takesBursts() {
            return !bankrupt && !bursts.isFull();
        }

        boolean isDone() {
            return bursts.count == 0 && answers.count == 0;
        }

        // Looked at once a tick: the word or answer of the turn must not change who had something to do.
        void lookForWork(int tick) {
            busy = bursts.count > 0 || answers.firstReady(tick) != NONE;
        }

        void countWait(boolean hadTurn) {
            waited = busy && !hadTurn ? waited + 1 : 0;
            longest = Math.max(longest, waited);
        }

        void goBankrupt() {
            bankrupt = true;
            forgetDebts();
            bursts.count = 0;
            answers.count = 0;
        }
    }

    /** A state: everything but the text and the save slots. */
    private static final class Bus {
        int masters;
        int slots;
        int ticks;
        int idle;
        int credit;
        int lastTurn;
        final int[] ownerOf = new int[MOST_SLOTS];
        final int[] latencyOf = new int[SLAVES];
        final Master[] rows = new Master[MOST_MASTERS];

        Bus() {
            for (int m = 0; m < MOST_MASTERS; m++) {
                rows[m] = new Master();
            }
            makeNew(2, 4);
        }

        void makeNew(int itsMasters, int itsSlots) {
            masters = Math.min(Math.max(itsMasters, FEWEST_MASTERS), MOST_MASTERS);
            slots = Math.min(Math.max(itsSlots, FEWEST_SLOTS), MOST_SLOTS);
            ticks = 0;
            idle = 0;
            credit = FIRST_CREDIT;
            lastTurn = NONE;
            for (int s = 0; s < slots; s++) {
                ownerOf[s] = s % masters;
            }
            for (int slave = 0; slave < SLAVES; slave++) {
                latencyOf[slave] = FIRST_LATENCY;
            }
            for (int m = 0; m < MOST_MASTERS; m++) {
                rows[m].makeNew();
            }
        }

        void copyFrom(Bus other) {
            masters = other.masters;
            slots = other.slots;
            ticks = other.ticks;
            idle = other.idle;
            credit = other.credit;
            lastTurn = other.lastTurn;
            for (int s = 0; s < MOST_SLOTS; s++) {
                ownerOf[s] = other.ownerOf[s];
            }
            for (int slave = 0; slave < SLAVES; slave++) {
                latencyOf[slave] = other.latencyOf[slave];
            }
            for (int m = 0; m < MOST_MASTERS; m++) {
                rows[m].copyFrom(other.rows[m]);
            }
        }

        boolean hasMaster(int m) {
            return m >= 0 && m < masters && m < MOST_MASTERS;
        }

        boolean hasSlot(int s) {
            return s >= 0 && s < slots && s < MOST_SLOTS;
        }

        int join() {
            if (masters >= MOST_MASTERS) {
                return NONE;
            }
            rows[masters].makeNew();
            masters++;
            return masters - 1;
        }

        // ---- numbers

        int slotsOf(int m) {
            int count = 0;
            for (int s = 0; s < slots; s++) {
                if (ownerOf[s] == m) {
                    count++;
                }
            }
            return count;
        }

        int owedTo(int m) {
            int sum = 0;
            if (hasMaster(m)) {
                for (int a = 0; a < masters; a++) {
                    sum += rows[a].debtTo[m];
                }
            }
            return sum;
        }

        int allDebts() {
            int sum = 0;
            for (int m = 0; m < masters; m++) {
                sum += rows[m].debts();
            }
            return sum;
        }

        int waitingBursts() {
            int sum = 0;
            for (int m = 0; m < masters; m++) {
                sum += rows[m].bursts.count;
            }
            return sum;
        }

        int openAnswers() {
            int sum = 0;
            for (int m = 0; m < masters; m++) {
                sum += rows[m].answers.count;
            }
            return sum;
        }

        int bankruptBits() {
            int bits = 0;
            for (int m = 0; m < masters; m++) {
                if (rows[m].bankrupt) {
                    bits |= 1 << m;
                }
            }
            return bits;
        }

        int mastersAhead(int m) {
            if (!hasMaster(m)) {
                return NONE;
            }
            int debts = rows[m].debts();
            int ahead = 0;
            for (int k = 0; k < masters; k++) {
                int others = rows[k].debts();
                if (others > debts || (others == debts && k < m)) {
                    ahead++;
                }
            }
            return ahead;
        }

        // ---- ticks

        void step() {
            for (int m = 0; m < masters; m++) {
                rows[m].lookForWork(ticks);
            }
            lastTurn = takeTurn(ownerNow());
            if (hasMaster(lastTurn)) {
                work(rows[lastTurn]);
            } else {
                idle++;
            }
            for (int m = 0; m < masters; m++) {
                rows[m].countWait(m == lastTurn);
            }
            for (int m = 0; m < masters; m++) {
                if (cannotPay(m)) {
                    ruin(m);
                }
            }
            ticks++;
        }

        void stepTimes(int times) {
            for (int i = 0; i < times; i++) {
                step();
            }
        }

        /** The steps until the masters first to last are done, or limit + 1 if they are more. */
        int stepsTillDone(int first, int last, int limit) {
            // An idle tick changes only what is ready. When all answers have become ready and
            // each slot was idle after that, every later tick is idle too.
            int forGood = slots + MOST_LATENCY + 2;
            int idleRun = 0;
            for (int i = 0; i <= limit && idleRun < forGood; i++) {
                if (areDone(first, last)) {
                    return i;
                }
                step();
                idleRun = lastTurn == NONE ? idleRun + 1 : 0;
            }
            return limit + 1;
        }

        private boolean areDone(int first, int last) {
            for (int m = first; m <= last; m++) {
                if (hasMaster(m) && !rows[m].isDone()) {
                    return false;
                }
            }
            return true;
        }

        private int ownerNow() {
            int slot = slots > 0 ? Math.floorMod(ticks, slots) : 0;
            return slot < MOST_SLOTS ? ownerOf[slot] : NONE;
        }

        private int takeTurn(int o) {
            if (!hasMaster(o)) {
                return NONE;
            }
            Master owner = rows[o];
            int creditor = creditorOf(owner, true);
            if (hasMaster(creditor)) {
                owner.debtTo[creditor]--;
                rows[creditor].paidTurns++;
                return creditor;
            }
            if (owner.busy) {
                owner.ownTurns++;
                return o;
            }
            int borrower = firstBorrower();
            if (hasMaster(borrower)) {
                rows[borrower].debtTo[o]++;
                rows[borrower].creditTurns++;
            }
            return borrower;
        }

        private int creditorOf(Master debtor, boolean mustBeBusy) {
            int found = NONE;
            int most = 0;
            for (int c = 0; c < masters; c++) {
                if (debtor.debtTo[c] > most && (!mustBeBusy || rows[c].busy)) {
                    most = debtor.debtTo[c];
                    found = c;
                }
            }
            return found;
        }

        private int firstBorrower() {
            int found = NONE;
            int longestWait = -1;
            for (int m = 0; m < masters; m++) {
                Master row = rows[m];
                if (row.busy && !row.bankrupt && row.waited > longestWait && row.debts() < credit) {
                    longestWait = row.waited;
                    found = m;
                }
            }
            return found;
        }

        private void work(Master row) {
            int answer = row.answers.firstReady(ticks);
            if (answer != NONE) {
                row.answers.remove(answer);
                row.answersTaken++;
            } else if (row.bursts.count > 0) {
                sendWord(row);
            }
        }

        private void sendWord(Master row) {
            Bursts bursts = row.bursts;
            bursts.words[0]--;
            if (bursts.words[0] > 0) {
                return;
            }
            if (bursts.asks[0]) {
                row.answers.add(ticks + 1 + latencyNow(bursts.slave[0]));
            }
            bursts.removeFirst();
        }

        private int latencyNow(int slave) {
            return slave >= 0 && slave < SLAVES ? latencyOf[slave] : 0;
        }

        private boolean cannotPay(int m) {
            if (!hasMaster(m) || rows[m].bankrupt) {
                return false;
            }
            int debts = rows[m].debts();
            return debts > 0 && debts > 4 * slotsOf(m);
        }

        private void ruin(int m) {
            if (!hasMaster(m)) {
                return;
            }
            int heir = creditorOf(rows[m], false);
            for (int s = 0; s < slots && hasMaster(heir); s++) {
                if (ownerOf[s] == m) {
                    ownerOf[s] = heir;
                }
            }
            for (int a = 0; a < masters; a++) {
                rows[a].debtTo[m] = 0;
            }
            rows[m].goBankrupt();
        }
    }

    /** The remembered states, in a ring: the oldest one is overwritten when the ring is full. */
    private static final class History {
        int count;
        int next;
        final Bus[] ring = new Bus[MOST_REMEMBERED];

        History() {
            for (int i = 0; i < MOST_REMEMBERED; i++) {
                ring[i] = new Bus();
            }
        }

        void empty() {
            count = 0;
        }

        void remember(Bus bus) {
            if (next < 0 || next >= MOST_REMEMBERED) {
                return;
            }
            ring[next].copyFrom(bus);
            next = next + 1 < MOST_REMEMBERED ? next + 1 : 0;
            count = Math.min(count + 1, MOST_REMEMBERED);
        }

        void takeBack(Bus bus) {
            int newest = next > 0 ? next - 1 : MOST_REMEMBERED - 1;
            if (count < 1 || newest >= MOST_REMEMBERED) {
                return;
            }
            bus.copyFrom(ring[newest]);
            next = newest;
            count--;
        }
    }

    /** The text buffer, and the reader of a bus in it. */
    private static final class BusText {
        int length;
        final char[] signs = new char[MOST_TEXT];
        // While a text is read: the place of the next sign, and whether that sign is not allowed.
        int place;
        boolean broken;

        boolean isFull() {
            return length >= MOST_TEXT;
        }

        int add(char sign) {
            if (length >= 0 && length < MOST_TEXT) {
                signs[length] = sign;
                length++;
            }
            return length;
        }

        int empty() {
            int previous = length;
            length = 0;
            return previous;
        }

        /** Returns the error position, or NONE if the bus has been read. */
        int readInto(Bus bus) {
            place = 0;
            broken = false;
            readOneOf('U', 'U');
            int masters = readDigit(FEWEST_MASTERS, MOST_MASTERS);
            int slots = readTwoDigits(FEWEST_SLOTS, MOST_SLOTS);
            if (!broken) {
                bus.makeNew(masters, slots);
            }
            for (int part = 0; part < MOST_TEXT && !broken && place < length; part++) {
                readPart(bus);
            }
            return broken ? place : NONE;
        }

        private void readPart(Bus bus) {
            char kind = signAt(place);
            place++;
            if (kind == 'o') {
                readOwner(bus);
            } else if (kind == 'l') {
                readLatency(bus);
            } else if (kind == 'c') {
                readCredit(bus);
            } else if (kind == 'b') {
                readBurst(bus);
            } else {
                refuseLast();
            }
        }

        private void readOwner(Bus bus) {
            int slot = readTwoDigits(0, bus.slots - 1);
            int master = readDigit(0, bus.masters - 1);
            if (!broken && bus.hasSlot(slot)) {
                bus.ownerOf[slot] = master;
            }
        }

        private void readLatency(Bus bus) {
            int slave = readDigit(0, SLAVES - 1);
            int latency = readDigit(0, MOST_LATENCY);
            if (!broken && slave >= 0 && slave < SLAVES) {
                bus.latencyOf[slave] = latency;
            }
        }

        private void readCredit(Bus bus) {
            int credit = readDigit(0, MOST_CREDIT);
            if (!broken) {
                bus.credit = credit;
            }
        }

        private void readBurst(Bus bus) {
            int master = readDigit(0, bus.masters - 1);
            if (broken || !bus.hasMaster(master)) {
                return;
            }
            Bursts bursts = bus.rows[master].bursts;
            if (bursts.isFull()) {
                refuseLast();
            }
            int slave = readDigit(0, SLAVES - 1);
            int words = readDigit(1, MOST_WORDS);
            char mark = readOneOf('+', '-');
            if (!broken) {
                bursts.add(slave, words, mark == '+');
            }
        }

        private char signAt(int at) {
            return at >= 0 && at < length && at < MOST_TEXT ? signs[at] : 0;
        }

        private void refuseLast() {
            place--;
            broken = true;
        }

        private char readOneOf(char one, char other) {
            char sign = signAt(place);
            if (!broken && place < length && (sign == one || sign == other)) {
                place++;
            } else {
                broken = true;
            }
            return sign;
        }

        private int readDigit(int low, int high) {
            int digit = signAt(place) - '0';
            if (!broken && place < length && digit >= low && digit <= high) {
                place++;
                return digit;
            }
            broken = true;
            return low;
        }

        private int readTwoDigits(int low, int high) {
            int tens = readDigit(low / 10, high / 10);
            int least = tens == low / 10 ? low % 10 : 0;
            int most = tens == high / 10 ? high % 10 : 9;
            return 10 * tens + readDigit(least, most);
        }
    }
}
