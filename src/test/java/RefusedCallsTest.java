/** A call that throws an exception changes nothing: all that can be seen stays, with what is remembered and saved. */
public final class RefusedCallsTest {
    private static final Class<IllegalArgumentException> ARGUMENT = IllegalArgumentException.class;
    private static final Class<IllegalStateException> STATE = IllegalStateException.class;
    private static final Class<IndexOutOfBoundsException> INDEX = IndexOutOfBoundsException.class;

    private interface CallOf {
        long run(TurnBus bus);
    }

    private static String due;

    public static void main(String[] args) {
        due = Seen.toTheEnd(busy());
        Due.same("two of a kind", Seen.toTheEnd(busy()), due);
        texts();
        views();
        actions();
        actionsOfAFullOne();
        undoOfNothing();
        forecasts();
        saveSlots();
        Due.end();
    }

    // Six masters, 4 of them bankrupt or full or busy, 14 states remembered, a slot saved, a text that is no bus.
    private static TurnBus busy() {
        TurnBus bus = Due.loaded("U508c6b018+b127-b231+l19b401-o040");
        bus.pass(3);
        bus.save(1);
        bus.addMaster();
        bus.give(7, 5);
        bus.setLatency(2, 5);
        for (int i = 0; i < 5; i++) {
            bus.send(3, i % 4, i + 1, i % 2 == 0);
            bus.pass(2);
        }
        for (int i = bus.master(3, 3); i < 6; i++) {
            bus.send(3, 1, 1, true);
        }
        Due.is("bankrupt", bus.about(9) & 16, 16);
        Due.is("full", bus.master(3, 3), 6);
        bus.append('x');
        return bus;
    }

    private static void refuses(String what, Class<? extends RuntimeException> want, CallOf call) {
        TurnBus bus = busy();
        for (int i = 0; i < 2; i++) {
            Due.refuses(what, want, () -> call.run(bus));
        }
        Due.same("all that can be seen behind " + what, Seen.toTheEnd(bus), due);
    }

    private static void texts() {
        refuses("append(-1)", ARGUMENT, bus -> bus.append(-1));
        refuses("append(256)", ARGUMENT, bus -> bus.append(256));
        refuses("load", STATE, TurnBus::load);
        TurnBus full = new TurnBus();
        Due.type(full, "U204" + "c1".repeat(58));
        Due.refuses("append to a full text", STATE, () -> full.append('c'));
        Due.refuses("append to a full text", STATE, () -> full.append(' '));
        Due.is("the text stays", full.errorPosition(), TurnBus.NONE);
        Due.is("its length stays", full.clearText(), 120);
    }

    private static void views() {
        refuses("about(10)", ARGUMENT, bus -> bus.about(10));
        refuses("master(6, 0)", INDEX, bus -> bus.master(6, 0));
        refuses("master(0, 11)", ARGUMENT, bus -> bus.master(0, 11));
        refuses("owner(8)", INDEX, bus -> bus.owner(8));
        refuses("owes(6, 0)", INDEX, bus -> bus.owes(6, 0));
        refuses("owes(0, -1)", INDEX, bus -> bus.owes(0, -1));
        refuses("burst(6, 0, 0)", INDEX, bus -> bus.burst(6, 0, 0));
        refuses("burst(0, -1, 0)", ARGUMENT, bus -> bus.burst(0, -1, 0));
        refuses("burst(0, 0, 3)", ARGUMENT, bus -> bus.burst(0, 0, 3));
        refuses("order(-1)", ARGUMENT, bus -> bus.order(-1));
    }

    private static void actions() {
        refuses("addMaster", STATE, TurnBus::addMaster);
        refuses("give(8, 0)", INDEX, bus -> bus.give(8, 0));
        refuses("give(0, 6)", INDEX, bus -> bus.give(0, 6));
        refuses("give(0, 4)", STATE, bus -> bus.give(0, 4));
        refuses("setLatency(4, 0)", INDEX, bus -> bus.setLatency(4, 0));
        refuses("setLatency(0, 10)", ARGUMENT, bus -> bus.setLatency(0, 10));
        refuses("setLatency(0, -1)", ARGUMENT, bus -> bus.setLatency(0, -1));
        refuses("setCredit(10)", ARGUMENT, bus -> bus.setCredit(10));
        refuses("setCredit(-1)", ARGUMENT, bus -> bus.setCredit(-1));
        refuses("pass(0)", ARGUMENT, bus -> bus.pass(0));
        refuses("pass(100)", ARGUMENT, bus -> bus.pass(100));
        refuses("forgive(6, 0)", INDEX, bus -> bus.forgive(6, 0));
        refuses("forgive(0, 6)", INDEX, bus -> bus.forgive(0, 6));
    }

    private static void actionsOfAFullOne() {
        refuses("send(6, 0, 1, true)", INDEX, bus -> bus.send(6, 0, 1, true));
        refuses("send(0, 4, 1, true)", INDEX, bus -> bus.send(0, 4, 1, true));
        refuses("send(0, 0, 0, true)", ARGUMENT, bus -> bus.send(0, 0, 0, true));
        refuses("send(0, 0, 9, true)", ARGUMENT, bus -> bus.send(0, 0, 9, true));
        refuses("send(3, 0, 1, true)", STATE, bus -> bus.send(3, 0, 1, true));
        refuses("send(4, 0, 1, true)", STATE, bus -> bus.send(4, 0, 1, true));
    }

    private static void undoOfNothing() {
        TurnBus bus = Due.loaded("U303b208+b101-");
        bus.save(0);
        Due.refuses("undo", STATE, bus::undo);
        TurnBus twin = Due.loaded("U303b208+b101-");
        twin.save(0);
        Due.same("all that can be seen behind undo", Seen.toTheEnd(bus), Seen.toTheEnd(twin));
    }

    private static void forecasts() {
        refuses("turnIn(-1)", ARGUMENT, bus -> bus.turnIn(-1));
        refuses("turnIn(100)", ARGUMENT, bus -> bus.turnIn(100));
        refuses("doneIn(6)", INDEX, bus -> bus.doneIn(6));
        refuses("bestSlot(-1)", INDEX, bus -> bus.bestSlot(-1));
        refuses("runScript(0, 0)", ARGUMENT, bus -> bus.runScript(0, 0));
        refuses("runScript(4, 10001)", ARGUMENT, bus -> bus.runScript(4, 10001));
        refuses("runScript(1, 100000)", ARGUMENT, bus -> bus.runScript(1, 100000));
        refuses("runScript(1, -1)", ARGUMENT, bus -> bus.runScript(1, -1));
        refuses("simulate(1, 0)", ARGUMENT, bus -> bus.simulate(1, 0));
        refuses("simulate(1, 201)", ARGUMENT, bus -> bus.simulate(1, 201));
    }

    private static void saveSlots() {
        refuses("save(-1)", INDEX, bus -> bus.save(-1));
        refuses("save(2)", INDEX, bus -> bus.save(2));
        refuses("restore(-1)", INDEX, bus -> bus.restore(-1));
        refuses("restore(2)", INDEX, bus -> bus.restore(2));
        refuses("restore(0)", STATE, bus -> bus.restore(0));
    }
}
