/** Promises 12 to 16, 18 and 19: addMaster, give, setLatency, setCredit, send, forgive, undo. */
public final class ActionTest {
    private static final Class<IllegalArgumentException> ARGUMENT = IllegalArgumentException.class;
    private static final Class<IllegalStateException> STATE = IllegalStateException.class;
    private static final Class<IndexOutOfBoundsException> INDEX = IndexOutOfBoundsException.class;
    private static final int[] OUTSIDE = {-1, Integer.MIN_VALUE, Integer.MAX_VALUE};

    public static void main(String[] args) {
        adding();
        giving();
        latencies();
        credits();
        sending();
        forgiving();
        undoing();
        undoingForgets();
        refusedCallsAreNoActions();
        Due.end();
    }

    /** A bus with the bankrupt master 2. */
    private static TurnBus withBankrupt() {
        TurnBus bus = new TurnBus();
        bus.addMaster();
        bus.send(2, 0, 5, true);
        bus.pass(1);
        Due.is("2 is bankrupt", bus.about(9), 4);
        return bus;
    }

    private static void adding() {
        TurnBus bus = new TurnBus();
        for (int m = 2; m < 6; m++) {
            Due.is("addMaster", bus.addMaster(), m);
            Due.is("masters", bus.about(0), m + 1);
            for (int what = 0; what <= 10; what++) {
                Due.is("master(" + m + ", " + what + ")", bus.master(m, what), 0);
            }
        }
        Due.refuses("a seventh", STATE, bus::addMaster);
        Due.is("slots of 0", bus.master(0, 0), 2);
        Due.is("masters", bus.about(0), 6);
        TurnBus again = new TurnBus();
        again.addMaster();
        again.send(2, 0, 8, true);
        again.pass(1);
        Due.is("bankrupt", again.about(9), 4);
        again.undo();
        again.undo();
        again.undo();
        Due.is("masters", again.about(0), 2);
        again.addMaster();
        Due.is("not bankrupt", again.about(9), 0);
        Due.is("no bursts", again.master(2, 3), 0);
        Due.is("no turns on credit", again.master(2, 9), 0);
    }

    private static void giving() {
        TurnBus bus = withBankrupt();
        Due.is("give(3, 0)", bus.give(3, 0), 1);
        Due.is("owner(3)", bus.owner(3), 0);
        Due.is("give(3, 0) again", bus.give(3, 0), 0);
        Due.is("slots of 0", bus.master(0, 0), 3);
        Due.is("slots of 1", bus.master(1, 0), 1);
        Due.refuses("give(0, 2)", STATE, () -> bus.give(0, 2));
        Due.refuses("give(4, 2)", INDEX, () -> bus.give(4, 2));
        Due.refuses("give(0, 3)", INDEX, () -> bus.give(0, 3));
        for (int at : OUTSIDE) {
            Due.refuses("give(" + at + ", 2)", INDEX, () -> bus.give(at, 2));
            Due.refuses("give(0, " + at + ")", INDEX, () -> bus.give(0, at));
        }
        TurnBus wide = Due.loaded("U616");
        Due.is("give(15, 5)", wide.give(15, 5), 3);
        Due.refuses("give(16, 5)", INDEX, () -> wide.give(16, 5));
        Due.refuses("give(15, 6)", INDEX, () -> wide.give(15, 6));
    }

    private static void latencies() {
        TurnBus bus = new TurnBus();
        for (int slave = 0; slave < 4; slave++) {
            Due.is("setLatency", bus.setLatency(slave, 9 - slave), 2);
        }
        for (int slave = 0; slave < 4; slave++) {
            Due.is("setLatency to 0", bus.setLatency(slave, 0), 9 - slave);
        }
        Due.is("setLatency from 0", bus.setLatency(3, 9), 0);
        Due.refuses("latency 10", ARGUMENT, () -> bus.setLatency(0, 10));
        Due.refuses("slave 4", INDEX, () -> bus.setLatency(4, 10));
        for (int at : OUTSIDE) {
            Due.refuses("latency " + at, ARGUMENT, () -> bus.setLatency(0, at));
            Due.refuses("slave " + at, INDEX, () -> bus.setLatency(at, at));
        }
        Due.is("latency of 3", bus.setLatency(3, 9), 9);
    }

    private static void credits() {
        TurnBus bus = new TurnBus();
        Due.is("setCredit(0)", bus.setCredit(0), 4);
        Due.is("setCredit(9)", bus.setCredit(9), 0);
        Due.is("credit", bus.about(4), 9);
        Due.refuses("setCredit(10)", ARGUMENT, () -> bus.setCredit(10));
        for (int at : OUTSIDE) {
            Due.refuses("setCredit(" + at + ")", ARGUMENT, () -> bus.setCredit(at));
        }
        Due.is("credit", bus.about(4), 9);
    }

    private static void sending() {
        TurnBus bus = withBankrupt();
        for (int i = 1; i <= 6; i++) {
            Due.is("send", bus.send(0, i % 4, i, i % 2 == 1), i);
        }
        for (int i = 1; i <= 6; i++) {
            Due.is("slave", bus.burst(0, i - 1, 0), i % 4);
            Due.is("words", bus.burst(0, i - 1, 1), i);
            Due.is("asks", bus.burst(0, i - 1, 2), i % 2);
        }
        Due.refuses("a seventh burst", STATE, () -> bus.send(0, 0, 1, false));
        Due.refuses("to a bankrupt one", STATE, () -> bus.send(2, 0, 1, false));
        Due.refuses("9 words to a bankrupt one", ARGUMENT, () -> bus.send(2, 0, 9, false));
        Due.refuses("0 words of a full one", ARGUMENT, () -> bus.send(0, 0, 0, false));
        Due.refuses("slave 4 with 9 words", INDEX, () -> bus.send(2, 4, 9, false));
        Due.refuses("master 3", INDEX, () -> bus.send(3, 0, 9, false));
        for (int at : OUTSIDE) {
            Due.refuses("master " + at, INDEX, () -> bus.send(at, 0, at, true));
            Due.refuses("slave " + at, INDEX, () -> bus.send(0, at, at, true));
            Due.refuses("words " + at, ARGUMENT, () -> bus.send(1, 0, at, true));
        }
        Due.is("8 words", bus.send(1, 3, 8, true), 1);
        Due.is("words of 0", bus.master(0, 4), 21);
        Due.is("bursts", bus.about(6), 7);
    }

    private static void forgiving() {
        TurnBus bus = Due.loaded("U404b308-");
        bus.pass(5);
        Due.is("debts", bus.master(3, 1), 4);
        Due.is("forgive(3, 0)", bus.forgive(3, 0), 2);
        Due.is("forgive(3, 0) again", bus.forgive(3, 0), 0);
        Due.is("forgive(0, 3)", bus.forgive(0, 3), 0);
        Due.is("forgive(3, 3)", bus.forgive(3, 3), 0);
        Due.is("owes(3, 1)", bus.owes(3, 1), 1);
        Due.is("forgive(3, 2)", bus.forgive(3, 2), 1);
        Due.is("debts", bus.about(5), 1);
        for (int at : new int[] {-1, 4, 6, Integer.MAX_VALUE, Integer.MIN_VALUE}) {
            Due.refuses("forgive(" + at + ", 0)", INDEX, () -> bus.forgive(at, 0));
            Due.refuses("forgive(0, " + at + ")", INDEX, () -> bus.forgive(0, at));
        }
        Due.is("remembered", bus.undo(), 5);
        Due.is("owes(3, 2)", bus.owes(3, 2), 1);
    }

    private static void undoing() {
        TurnBus bus = Due.loaded("U303b203+b202-");
        bus.pass(3);
        bus.addMaster();
        bus.give(0, 3);
        bus.setLatency(1, 7);
        bus.setCredit(1);
        bus.send(3, 1, 8, true);
        bus.forgive(2, 0);
        Due.is("owes(2, 0)", bus.owes(2, 0), 0);
        Due.is("undo of forgive", bus.undo(), 6);
        Due.is("owes(2, 0)", bus.owes(2, 0), 1);
        Due.is("undo of send", bus.undo(), 5);
        Due.is("bursts of 3", bus.master(3, 3), 0);
        Due.is("undo of setCredit", bus.undo(), 4);
        Due.is("credit", bus.about(4), 4);
        Due.is("undo of setLatency", bus.undo(), 3);
        Due.is("undo of give", bus.undo(), 2);
        Due.is("owner(0)", bus.owner(0), 0);
        Due.is("undo of addMaster", bus.undo(), 1);
        Due.is("masters", bus.about(0), 3);
        Due.is("undo of pass", bus.undo(), 0);
        int[] about = {3, 3, 0, 0, 4, 0, 2, 0, TurnBus.NONE, 0};
        for (int what = 0; what < about.length; what++) {
            Due.is("about(" + what + ") after all", bus.about(what), about[what]);
        }
        Due.is("words of 2", bus.master(2, 4), 5);
        Due.is("turns of 2", bus.master(2, 7) + bus.master(2, 9), 0);
        Due.refuses("undo of nothing", STATE, bus::undo);
        Due.is("latency of 1", bus.setLatency(1, 2), 2);
        TurnBus answers = Due.loaded("U202o000o010b001+l03");
        answers.pass(1);
        answers.pass(5);
        Due.is("taken", answers.master(0, 10), 1);
        answers.undo();
        Due.is("answer again", answers.about(7), 1);
        Due.is("ready as before", answers.doneIn(0), 4);
    }

    private static void undoingForgets() {
        TurnBus bus = new TurnBus();
        for (int i = 0; i < 20; i++) {
            bus.setCredit(i % 10);
        }
        for (int i = 19; i > 5; i--) {
            Due.is("credit", bus.about(4), i % 10);
            Due.is("undo", bus.undo(), i - 6);
        }
        Due.is("credit of the oldest", bus.about(4), 5);
        Due.refuses("a fifteenth undo", STATE, bus::undo);
        bus.setCredit(1);
        bus.setCredit(2);
        Due.is("undo", bus.undo(), 1);
        bus.setCredit(3);
        Due.is("undo", bus.undo(), 1);
        Due.is("undo", bus.undo(), 0);
        Due.is("credit", bus.about(4), 5);
    }

    private static void refusedCallsAreNoActions() {
        TurnBus bus = withBankrupt();
        Due.is("remembered", bus.undo(), 2);
        bus.pass(1);
        Due.refuses("give", STATE, () -> bus.give(0, 2));
        Due.refuses("send", STATE, () -> bus.send(2, 0, 1, true));
        Due.refuses("setCredit", ARGUMENT, () -> bus.setCredit(10));
        Due.refuses("setLatency", ARGUMENT, () -> bus.setLatency(0, 10));
        Due.refuses("forgive", INDEX, () -> bus.forgive(0, 3));
        Due.refuses("pass", ARGUMENT, () -> bus.pass(0));
        bus.save(0);
        bus.turnIn(3);
        bus.doneIn(0);
        bus.bestCredit();
        bus.bestSlot(0);
        bus.runScript(1, 10099);
        bus.simulate(1, 20);
        bus.append('U');
        bus.errorPosition();
        bus.clearText();
        Due.is("nothing but pass was one", bus.undo(), 2);
        bus.forgive(0, 1);
        bus.give(0, 0);
        bus.setCredit(4);
        bus.setLatency(0, 2);
        Due.is("actions without effect", bus.undo(), 5);
    }
}
