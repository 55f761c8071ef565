import java.util.ArrayDeque;
import java.util.ArrayList;
import java.util.Arrays;
import java.util.Deque;
import java.util.List;
import java.util.TreeMap;

/** The document told a second time, with lists and whole copies and no regard for speed or size. */
final class ReferenceBus {
    private static final int NONE = -9;

    private static final class Burst {
        final int slave;
        final int words;
        final boolean asks;

        Burst(int slave, int words, boolean asks) {
            this.slave = slave;
            this.words = words;
            this.asks = asks;
        }
    }

    private static final class Answer {
        final int master;
        final int ready;

        Answer(int master, int ready) {
            this.master = master;
            this.ready = ready;
        }
    }

    private static final class State {
        List<Integer> owners = new ArrayList<>();
        int[] latency = {2, 2, 2, 2};
        int credit = 4;
        int ticks = 0;
        int idle = 0;
        int last = NONE;
        TreeMap<String, Integer> debts = new TreeMap<>();
        List<List<Burst>> bursts = new ArrayList<>();
        List<Answer> answers = new ArrayList<>();
        List<Boolean> bankrupt = new ArrayList<>();
        List<int[]> counts = new ArrayList<>();

        State(int masters, int slots) {
            for (int m = 0; m < masters; m++) {
                join();
            }
            for (int s = 0; s < slots; s++) {
                owners.add(s % masters);
            }
        }

        State(State o) {
            owners = new ArrayList<>(o.owners);
            latency = o.latency.clone();
            credit = o.credit;
            ticks = o.ticks;
            idle = o.idle;
            last = o.last;
            debts = new TreeMap<>(o.debts);
            for (List<Burst> list : o.bursts) {
                bursts.add(new ArrayList<>(list));
            }
            answers = new ArrayList<>(o.answers);
            bankrupt = new ArrayList<>(o.bankrupt);
            for (int[] row : o.counts) {
                counts.add(row.clone());
            }
        }

        void join() {
            bursts.add(new ArrayList<>());
            bankrupt.add(false);
            counts.add(new int[6]);
        }

        int masters() {
            return bursts.size();
        }

        int owes(int a, int b) {
            return debts.getOrDefault(a + ">" + b, 0);
        }

        void setDebt(int a, int b, int turns) {
            debts.put(a + ">" + b, turns);
        }

        int debtsOf(int a) {
            int sum = 0;
            for (int b = 0; b < masters(); b++) {
                sum += owes(a, b);
            }
            return sum;
        }

        boolean hasReady(int m) {
            return answers.stream().anyMatch(a -> a.master == m && a.ready <= ticks);
        }

        boolean hasWork(int m) {
            return !bursts.get(m).isEmpty() || hasReady(m);
        }

        boolean done(int m) {
            return bursts.get(m).isEmpty() && answers.stream().noneMatch(a -> a.master == m);
        }

        boolean allDone() {
            return bursts.stream().allMatch(List::isEmpty) && answers.isEmpty();
        }

        void tick() {
            List<Boolean> work = new ArrayList<>();
            for (int m = 0; m < masters(); m++) {
                work.add(hasWork(m));
            }
            int o = owners.get(ticks % owners.size());
            int turn = chooseTurn(o, work);
            if (turn >= 0) {
                act(turn);
            } else {
                idle++;
            }
            for (int m = 0; m < masters(); m++) {
                int[] row = counts.get(m);
                row[0] = work.get(m) && m != turn ? row[0] + 1 : 0;
                row[1] = Math.max(row[1], row[0]);
            }
            for (int m = 0; m < masters(); m++) {
                if (!bankrupt.get(m) && debtsOf(m) > 4 * slotsOf(m)) {
                    bankruptcy(m);
                }
            }
            ticks++;
            last = turn;
        }

        int slotsOf(int m) {
            int n = 0;
            for (int owner : owners) {
                n += owner == m ? 1 : 0;
            }
            return n;
        }

        int chooseTurn(int o, List<Boolean> work) {
            int best = NONE;
            for (int m = masters() - 1; m >= 0; m--) {
                if (work.get(m) && owes(o, m) > 0 && (best < 0 || owes(o, m) >= owes(o, best))) {
                    best = m;
                }
            }
            if (best >= 0) {
                setDebt(o, best, owes(o, best) - 1);
                counts.get(best)[3]++;
                return best;
            }
            if (work.get(o)) {
                counts.get(o)[2]++;
                return o;
            }
            for (int m = masters() - 1; m >= 0; m--) {
                boolean may = !bankrupt.get(m) && work.get(m) && debtsOf(m) < credit;
                if (may && (best < 0 || counts.get(m)[0] >= counts.get(best)[0])) {
                    best = m;
                }
            }
            if (best >= 0) {
                setDebt(best, o, owes(best, o) + 1);
                counts.get(best)[4]++;
            }
            return best;
        }

        void act(int m) {
            for (int i = 0; i < answers.size(); i++) {
                if (answers.get(i).master == m && answers.get(i).ready <= ticks) {
                    answers.remove(i);
                    counts.get(m)[5]++;
                    return;
                }
            }
            Burst first = bursts.get(m).remove(0);
            if (first.words > 1) {
                bursts.get(m).add(0, new Burst(first.slave, first.words - 1, first.asks));
            } else if (first.asks) {
                answers.add(new Answer(m, ticks + 1 + latency[first.slave]));
            }
        }

        void bankruptcy(int m) {
            bankrupt.set(m, true);
            int heir = 0;
            for (int b = 0; b < masters(); b++) {
                if (owes(m, b) > owes(m, heir)) {
                    heir = b;
                }
            }
            for (int s = 0; s < owners.size(); s++) {
                if (owners.get(s) == m) {
                    owners.set(s, heir);
                }
            }
            for (int b = 0; b < masters(); b++) {
                setDebt(m, b, 0);
                setDebt(b, m, 0);
            }
            bursts.get(m).clear();
            answers.removeIf(a -> a.master == m);
        }

        int allBursts() {
            int sum = 0;
            for (List<Burst> list : bursts) {
                sum += list.size();
            }
            return sum;
        }

        int bankruptBits() {
            int bits = 0;
            for (int m = 0; m < masters(); m++) {
                bits += bankrupt.get(m) ? 1 << m : 0;
            }
            return bits;
        }
    }

    private String text = "";
    private State now = new State(2, 4);
    private final Deque<State> remembered = new ArrayDeque<>();
    private final State[] slots = new State[2];

    private void index(boolean fine) {
        if (!fine) {
            throw new IndexOutOfBoundsException();
        }
    }

    private void argument(boolean fine) {
        if (!fine) {
            throw new IllegalArgumentException();
        }
    }

    private void state(boolean fine) {
        if (!fine) {
            throw new IllegalStateException();
        }
    }

    private void needMaster(State s, int m) {
        index(m >= 0 && m < s.masters());
    }

    private void remember() {
        remembered.addLast(new State(now));
        if (remembered.size() > 14) {
            remembered.removeFirst();
        }
    }

    int append(int c) {
        argument(c >= 0 && c <= 255);
        state(text.length() < 120);
        text += (char) c;
        return text.length();
    }

    int clearText() {
        int n = text.length();
        text = "";
        return n;
    }

    // The error position by trying: the first place whose sign has no bus that begins with it.
    int errorPosition() {
        for (int n = 1; n <= text.length(); n++) {
            if (!begins(text.substring(0, n))) {
                return n - 1;
            }
        }
        return parts(text) == null ? text.length() : NONE;
    }

    /** The parts behind the head, or null if the text is not a whole bus. */
    private List<String> parts(String t) {
        if (!t.matches("(?s)U[2-6](0[2-9]|1[0-6]).*")) {
            return null;
        }
        int masters = t.charAt(1) - '0';
        int count = Integer.parseInt(t.substring(2, 4));
        int[] bursts = new int[6];
        List<String> found = new ArrayList<>();
        int at = 4;
        while (at < t.length()) {
            int size = sizeOf(t.charAt(at));
            if (size == 0 || at + size > t.length()) {
                return null;
            }
            String part = t.substring(at, at + size);
            if (!isPart(part, masters, count, bursts)) {
                return null;
            }
            found.add(part);
            at += size;
        }
        return found;
    }

    private int sizeOf(char kind) {
        int at = "olcb".indexOf(kind);
        return at < 0 ? 0 : new int[] {4, 3, 2, 5}[at];
    }

    private boolean isPart(String part, int masters, int count, int[] bursts) {
        if (part.matches("o\\d\\d\\d")) {
            return Integer.parseInt(part.substring(1, 3)) < count && part.charAt(3) - '0' < masters;
        }
        if (part.matches("b\\d[0-3][1-8][+-]")) {
            int m = part.charAt(1) - '0';
            return m < masters && ++bursts[m] <= 6;
        }
        return part.matches("l[0-3]\\d") || part.matches("c\\d");
    }

    private boolean begins(String t) {
        // A b is allowed even when all masters have 6 bursts: what is refused then is the digit behind it.
        if (t.endsWith("b") && parts(t.substring(0, t.length() - 1)) != null) {
            return true;
        }
        for (String filling : new String[] {"", "0", "00", "000", "+", "1+", "01+", "2", "02", "202"}) {
            if (parts(t + filling) != null) {
                return true;
            }
        }
        return false;
    }

    int load() {
        List<String> parts = parts(text);
        state(parts != null);
        now = new State(text.charAt(1) - '0', Integer.parseInt(text.substring(2, 4)));
        for (String part : parts) {
            int d1 = part.charAt(1) - '0';
            switch (part.charAt(0)) {
                case 'o': now.owners.set(Integer.parseInt(part.substring(1, 3)), part.charAt(3) - '0'); break;
                case 'l': now.latency[d1] = part.charAt(2) - '0'; break;
                case 'c': now.credit = d1; break;
                default: now.bursts.get(d1).add(
                    new Burst(part.charAt(2) - '0', part.charAt(3) - '0', part.charAt(4) == '+'));
            }
        }
        remembered.clear();
        Arrays.fill(slots, null);
        return now.allBursts();
    }

    int about(int what) {
        argument(what >= 0 && what <= 9);
        int debts = 0;
        for (int m = 0; m < now.masters(); m++) {
            debts += now.debtsOf(m);
        }
        return new int[] {now.masters(), now.owners.size(), now.ticks, now.idle, now.credit, debts,
            now.allBursts(), now.answers.size(), now.last, now.bankruptBits()}[what];
    }

    int master(int m, int what) {
        needMaster(now, m);
        argument(what >= 0 && what <= 10);
        int owed = 0;
        for (int a = 0; a < now.masters(); a++) {
            owed += now.owes(a, m);
        }
        int words = 0;
        for (Burst b : now.bursts.get(m)) {
            words += b.words;
        }
        int[] row = now.counts.get(m);
        return new int[] {now.slotsOf(m), now.debtsOf(m), owed, now.bursts.get(m).size(), words,
            row[0], row[1], row[2], row[3], row[4], row[5]}[what];
    }

    int owner(int s) {
        index(s >= 0 && s < now.owners.size());
        return now.owners.get(s);
    }

    int owes(int a, int b) {
        needMaster(now, a);
        needMaster(now, b);
        return now.owes(a, b);
    }

    int burst(int m, int i, int what) {
        needMaster(now, m);
        argument(i >= 0 && what >= 0 && what <= 2);
        if (i >= now.bursts.get(m).size()) {
            return NONE;
        }
        Burst b = now.bursts.get(m).get(i);
        return new int[] {b.slave, b.words, b.asks ? 1 : 0}[what];
    }

    int order(int place) {
        argument(place >= 0);
        List<Integer> all = new ArrayList<>();
        for (int m = 0; m < now.masters(); m++) {
            all.add(m);
        }
        all.sort((a, b) -> now.debtsOf(b) - now.debtsOf(a));
        return place < all.size() ? all.get(place) : NONE;
    }

    int addMaster() {
        state(now.masters() < 6);
        remember();
        now.join();
        return now.masters() - 1;
    }

    int give(int s, int m) {
        mayGive(now, s, m);
        remember();
        return now.owners.set(s, m);
    }

    private void mayGive(State st, int s, int m) {
        index(s >= 0 && s < st.owners.size());
        needMaster(st, m);
        state(!st.bankrupt.get(m));
    }

    int setLatency(int slave, int latency) {
        index(slave >= 0 && slave < 4);
        argument(latency >= 0 && latency <= 9);
        remember();
        int previous = now.latency[slave];
        now.latency[slave] = latency;
        return previous;
    }

    int setCredit(int credit) {
        argument(credit >= 0 && credit <= 9);
        remember();
        int previous = now.credit;
        now.credit = credit;
        return previous;
    }

    int send(int m, int slave, int words, boolean asks) {
        maySend(now, m, slave, words);
        remember();
        now.bursts.get(m).add(new Burst(slave, words, asks));
        return now.bursts.get(m).size();
    }

    private void maySend(State s, int m, int slave, int words) {
        needMaster(s, m);
        index(slave >= 0 && slave < 4);
        argument(words >= 1 && words <= 8);
        state(!s.bankrupt.get(m) && s.bursts.get(m).size() < 6);
    }

    int pass(int ticks) {
        argument(ticks >= 1 && ticks <= 99);
        remember();
        int busy = 0;
        for (int i = 0; i < ticks; i++) {
            now.tick();
            busy += now.last == NONE ? 0 : 1;
        }
        return busy;
    }

    int forgive(int a, int b) {
        needMaster(now, a);
        needMaster(now, b);
        remember();
        int n = now.owes(a, b);
        now.setDebt(a, b, 0);
        return n;
    }

    int undo() {
        state(!remembered.isEmpty());
        now = remembered.removeLast();
        return remembered.size();
    }

    int turnIn(int ticks) {
        argument(ticks >= 0 && ticks <= 99);
        State copy = new State(now);
        for (int i = 0; i <= ticks; i++) {
            copy.tick();
        }
        return copy.last;
    }

    int doneIn(int m) {
        needMaster(now, m);
        return doneIn(now, m);
    }

    private int doneIn(State from, int m) {
        State copy = new State(from);
        for (int i = 0; i <= 400; i++) {
            if (copy.done(m)) {
                return i;
            }
            copy.tick();
        }
        return NONE;
    }

    int bestCredit() {
        int[] ticks = new int[10];
        for (int c = 0; c < 10; c++) {
            State copy = new State(now);
            copy.credit = c;
            while (ticks[c] < 401 && !copy.allDone()) {
                copy.tick();
                ticks[c]++;
            }
        }
        return smallest(ticks);
    }

    int bestSlot(int m) {
        needMaster(now, m);
        if (now.bankrupt.get(m)) {
            return NONE;
        }
        int[] ticks = new int[now.owners.size()];
        for (int s = 0; s < ticks.length; s++) {
            State copy = new State(now);
            copy.owners.set(s, m);
            ticks[s] = doneIn(copy, m) == NONE ? 401 : doneIn(copy, m);
        }
        return smallest(ticks);
    }

    private int smallest(int[] values) {
        int at = 0;
        for (int i = 0; i < values.length; i++) {
            at = values[i] < values[at] ? i : at;
        }
        return at;
    }

    int runScript(int n, long script) {
        argument(n >= 1 && n <= 3);
        argument(script >= 0 && Long.toString(script).length() <= 5 * n);
        String digits = String.format("%0" + 5 * n + "d", script);
        State copy = new State(now);
        for (int i = 0; i < n; i++) {
            try {
                if (!command(copy, digits.substring(5 * i, 5 * i + 5))) {
                    return i;
                }
            } catch (IndexOutOfBoundsException | IllegalArgumentException | IllegalStateException e) {
                return i;
            }
        }
        return NONE;
    }

    private boolean command(State s, String g) {
        int[] d = g.chars().map(c -> c - '0').toArray();
        int xy = Integer.parseInt(g.substring(3));
        if (g.matches("100..")) {
            argument(xy >= 1);
            for (int i = 0; i < xy; i++) {
                s.tick();
            }
            return true;
        }
        if (g.matches("2...[01]")) {
            maySend(s, d[1], d[2], d[3]);
            s.bursts.get(d[1]).add(new Burst(d[2], d[3], d[4] == 1));
            return true;
        }
        if (g.matches("3...0")) {
            mayGive(s, 10 * d[1] + d[2], d[3]);
            s.owners.set(10 * d[1] + d[2], d[3]);
            return true;
        }
        if (g.matches("4..00")) {
            needMaster(s, d[1]);
            needMaster(s, d[2]);
            s.setDebt(d[1], d[2], 0);
            return true;
        }
        if (g.matches("5.000")) {
            s.credit = d[1];
            return true;
        }
        if (!g.matches("[679].0..|8.00[01]")) {
            return false;
        }
        needMaster(s, d[1]);
        switch (d[0]) {
            case 6: return s.debtsOf(d[1]) <= xy;
            case 7: return s.counts.get(d[1])[0] <= xy;
            case 8: return s.bankrupt.get(d[1]) == (d[4] == 1);
            default: return doneIn(s, d[1]) != NONE && doneIn(s, d[1]) <= xy;
        }
    }

    int simulate(long seed, int m) {
        argument(m >= 1 && m <= 200);
        State copy = new State(now);
        long x = seed;
        int idle = 0;
        for (int i = 0; i < m; i++) {
            x = x * 6364136223846793005L + 1442695040888963407L;
            int r = (int) (x >>> 33);
            if (r % 3 == 0) {
                int who = r / 4 % copy.masters();
                if (!copy.bankrupt.get(who) && copy.bursts.get(who).size() < 6) {
                    copy.bursts.get(who).add(new Burst(r / 64 % 4, 1 + r / 256 % 8, r / 2048 % 2 == 1));
                }
            }
            copy.tick();
            idle += copy.last == NONE ? 1 : 0;
        }
        return 1000 * idle + 10 * copy.allBursts() + Integer.bitCount(copy.bankruptBits());
    }

    int save(int slot) {
        index(slot == 0 || slot == 1);
        slots[slot] = new State(now);
        return now.ticks;
    }

    int restore(int slot) {
        index(slot == 0 || slot == 1);
        state(slots[slot] != null);
        now = new State(slots[slot]);
        remembered.clear();
        return now.ticks;
    }
}
