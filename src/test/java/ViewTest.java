/** Promises 1 and 6 to 11: a new object, about, master, owner, owes, burst, order. */
public final class ViewTest {
    private static final Class<IllegalArgumentException> ARGUMENT = IllegalArgumentException.class;
    private static final Class<IndexOutOfBoundsException> INDEX = IndexOutOfBoundsException.class;
    private static final int[] OUTSIDE = {-1, Integer.MIN_VALUE, Integer.MAX_VALUE};

    public static void main(String[] args) {
        Due.is("NONE", TurnBus.NONE, -9);
        newObject();
        aboutNumbers();
        masterNumbers();
        sixMasters();
        owners();
        debts();
        bursts();
        orders();
        Due.end();
    }

    private static void newObject() {
        TurnBus bus = new TurnBus();
        int[] about = {2, 4, 0, 0, 4, 0, 0, 0, TurnBus.NONE, 0};
        for (int what = 0; what < about.length; what++) {
            Due.is("about(" + what + ") of a new one", bus.about(what), about[what]);
        }
        for (int m = 0; m < 2; m++) {
            for (int what = 0; what <= 10; what++) {
                Due.is("master(" + m + ", " + what + ") of a new one", bus.master(m, what), what == 0 ? 2 : 0);
            }
        }
        for (int s = 0; s < 4; s++) {
            Due.is("owner(" + s + ") of a new one", bus.owner(s), s % 2);
        }
        for (int slave = 0; slave < 4; slave++) {
            Due.is("latency of a new one", bus.setLatency(slave, 2), 2);
        }
        TurnBus fresh = new TurnBus();
        Due.refuses("undo of a new one", IllegalStateException.class, fresh::undo);
        Due.refuses("restore(0) of a new one", IllegalStateException.class, () -> fresh.restore(0));
        Due.refuses("restore(1) of a new one", IllegalStateException.class, () -> fresh.restore(1));
        Due.is("text of a new one", fresh.clearText(), 0);
    }

    // The slot s belongs to the master s. The master 2 had a turn of the master 0, the master 1 its own one.
    private static TurnBus indebted() {
        TurnBus bus = Due.loaded("U303b202+");
        Due.same("turns", Due.turns(bus, 1), "2");
        bus.send(1, 0, 8, false);
        Due.same("turns", Due.turns(bus, 1), "1");
        return bus;
    }

    private static void aboutNumbers() {
        TurnBus bus = indebted();
        bus.send(0, 1, 1, true);
        int[] about = {3, 3, 2, 0, 4, 1, 3, 0, 1, 0};
        for (int what = 0; what < about.length; what++) {
            Due.is("about(" + what + ")", bus.about(what), about[what]);
        }
        bus.pass(1);
        Due.is("answers", bus.about(7), 1);
        Due.is("bursts", bus.about(6), 2);
        for (int what : new int[] {-1, 10, Integer.MIN_VALUE, Integer.MAX_VALUE}) {
            Due.refuses("about(" + what + ")", ARGUMENT, () -> bus.about(what));
        }
        TurnBus idle = new TurnBus();
        idle.send(0, 0, 1, false);
        Due.same("turns", Due.turns(idle, 3), "0..");
        Due.is("idle ones", idle.about(3), 2);
        Due.is("ticks", idle.about(2), 3);
        Due.is("last turn", idle.about(8), TurnBus.NONE);
    }

    private static void masterNumbers() {
        TurnBus bus = indebted();
        int[][] want = {
            {1, 0, 1, 0, 0, 0, 0, 0, 0, 0, 0},
            {1, 0, 0, 1, 7, 0, 0, 1, 0, 0, 0},
            {1, 1, 0, 1, 1, 1, 1, 0, 0, 1, 0},
        };
        for (int m = 0; m < 3; m++) {
            for (int what = 0; what <= 10; what++) {
                Due.is("master(" + m + ", " + what + ")", bus.master(m, what), want[m][what]);
            }
        }
        bus.pass(1);
        Due.is("own turns of 2", bus.master(2, 7), 1);
        bus.send(0, 0, 2, false);
        bus.give(2, 0);
        bus.give(0, 2);
        Due.same("turns", Due.turns(bus, 3), "010");
        Due.is("paid back to 0", bus.master(0, 8), 1);
        Due.is("own of 0", bus.master(0, 7), 1);
        Due.is("debts of 2", bus.master(2, 1), 0);
        Due.same("turns", Due.turns(bus, 1), "2");
        Due.is("answers of 2", bus.master(2, 10), 1);
        Due.is("own turns of 2", bus.master(2, 7), 2);
        for (int m : new int[] {-1, 3, 6, Integer.MAX_VALUE, Integer.MIN_VALUE}) {
            Due.refuses("master(" + m + ", 0)", INDEX, () -> bus.master(m, 0));
            Due.refuses("master(" + m + ", 11)", INDEX, () -> bus.master(m, 11));
        }
        for (int what : new int[] {-1, 11, Integer.MIN_VALUE, Integer.MAX_VALUE}) {
            Due.refuses("master(0, " + what + ")", ARGUMENT, () -> bus.master(0, what));
        }
    }

    // The master 0 takes a turn of each other one, 5 the turns of 0: all sums have a first and a last part.
    private static void sixMasters() {
        TurnBus bus = Due.loaded("U606b008-b001+o000");
        bus.pass(6);
        bus.send(5, 0, 8, true);
        bus.send(0, 0, 1, true);
        bus.send(0, 0, 1, true);
        bus.send(0, 0, 1, true);
        int[] about = {6, 6, 6, 0, 4, 4, 6, 0, TurnBus.NONE, 0};
        about[3] = 1;
        for (int what = 0; what < about.length; what++) {
            Due.is("about(" + what + ") of six", bus.about(what), about[what]);
        }
        for (int b = 1; b < 6; b++) {
            Due.is("owes(0, " + b + ")", bus.owes(0, b), b < 5 ? 1 : 0);
            Due.is("owed to " + b, bus.master(b, 2), b < 5 ? 1 : 0);
        }
        Due.is("order(0)", bus.order(0), 0);
        Due.is("order(5)", bus.order(5), 5);
        Due.is("order(6)", bus.order(6), TurnBus.NONE);
        for (int m = 0; m < 6; m++) {
            Due.is("slots of " + m, bus.master(m, 0), 1);
        }
    }

    private static void owners() {
        TurnBus bus = Due.loaded("U516o074o154");
        for (int s = 0; s < 16; s++) {
            Due.is("owner(" + s + ")", bus.owner(s), s == 7 || s == 15 ? 4 : s % 5);
        }
        Due.refuses("owner(16)", INDEX, () -> bus.owner(16));
        TurnBus small = Due.loaded("U202");
        Due.refuses("owner(2) of 2", INDEX, () -> small.owner(2));
        for (int s : OUTSIDE) {
            Due.refuses("owner(" + s + ")", INDEX, () -> bus.owner(s));
        }
    }

    private static void debts() {
        TurnBus bus = indebted();
        for (int a = 0; a < 3; a++) {
            for (int b = 0; b < 3; b++) {
                Due.is("owes(" + a + ", " + b + ")", bus.owes(a, b), a == 2 && b == 0 ? 1 : 0);
            }
        }
        for (int m : new int[] {-1, 3, 6, Integer.MAX_VALUE, Integer.MIN_VALUE}) {
            Due.refuses("owes(" + m + ", 0)", INDEX, () -> bus.owes(m, 0));
            Due.refuses("owes(0, " + m + ")", INDEX, () -> bus.owes(0, m));
        }
    }

    private static void bursts() {
        TurnBus bus = Due.loaded("U204b013+b026-");
        bus.pass(1);
        int[][] want = {{1, 2, 1}, {2, 6, 0}};
        for (int i = 0; i < 2; i++) {
            for (int what = 0; what < 3; what++) {
                Due.is("burst(0, " + i + ", " + what + ")", bus.burst(0, i, what), want[i][what]);
            }
        }
        Due.is("burst(0, 2, 0)", bus.burst(0, 2, 0), TurnBus.NONE);
        Due.is("burst(0, 6, 1)", bus.burst(0, 6, 1), TurnBus.NONE);
        Due.is("burst(0, most, 2)", bus.burst(0, Integer.MAX_VALUE, 2), TurnBus.NONE);
        Due.is("burst(1, 0, 0)", bus.burst(1, 0, 0), TurnBus.NONE);
        Due.refuses("burst(0, -1, 0)", ARGUMENT, () -> bus.burst(0, -1, 0));
        Due.refuses("burst(0, 0, 3)", ARGUMENT, () -> bus.burst(0, 0, 3));
        Due.refuses("burst(0, 0, -1)", ARGUMENT, () -> bus.burst(0, 0, -1));
        Due.refuses("burst(0, 9, 3)", ARGUMENT, () -> bus.burst(0, 9, 3));
        Due.refuses("burst(2, -1, 3)", INDEX, () -> bus.burst(2, -1, 3));
        for (int m : OUTSIDE) {
            Due.refuses("burst(" + m + ", 0, 0)", INDEX, () -> bus.burst(m, 0, 0));
        }
        bus.pass(2);
        Due.is("the next one is first", bus.burst(0, 0, 0), 2);
    }

    private static void orders() {
        TurnBus bus = Due.loaded("U408o042o062o073b108-b208-b308-c9");
        Due.same("turns", Due.turns(bus, 1), "1");
        Due.is("first", bus.order(0), 1);
        Due.is("second", bus.order(1), 0);
        Due.is("third", bus.order(2), 2);
        Due.is("fourth", bus.order(3), 3);
        Due.is("order(4)", bus.order(4), TurnBus.NONE);
        Due.is("order(most)", bus.order(Integer.MAX_VALUE), TurnBus.NONE);
        Due.refuses("order(-1)", ARGUMENT, () -> bus.order(-1));
        Due.refuses("order(least)", ARGUMENT, () -> bus.order(Integer.MIN_VALUE));
        bus.forgive(1, 0);
        for (int place = 0; place < 4; place++) {
            Due.is("order(" + place + ") without debts", bus.order(place), place);
        }
    }
}
