/** Promises 26 and 27: save, restore. */
public final class SaveTest {
    private static final Class<IllegalStateException> STATE = IllegalStateException.class;
    private static final Class<IndexOutOfBoundsException> INDEX = IndexOutOfBoundsException.class;

    public static void main(String[] args) {
        ranges();
        savingAndRestoring();
        restoringForgets();
        savingIsNoAction();
        Due.end();
    }

    private static void ranges() {
        TurnBus bus = new TurnBus();
        for (int slot : new int[] {-1, 2, Integer.MAX_VALUE, Integer.MIN_VALUE}) {
            Due.refuses("save(" + slot + ")", INDEX, () -> bus.save(slot));
            Due.refuses("restore(" + slot + ")", INDEX, () -> bus.restore(slot));
        }
        Due.refuses("restore(0)", STATE, () -> bus.restore(0));
        Due.refuses("restore(1)", STATE, () -> bus.restore(1));
        Due.is("save(1)", bus.save(1), 0);
        Due.refuses("restore(0) still", STATE, () -> bus.restore(0));
        Due.is("restore(1)", bus.restore(1), 0);
    }

    private static void savingAndRestoring() {
        TurnBus bus = Due.loaded("U303b208+b101-l07");
        bus.pass(4);
        Due.is("save(0)", bus.save(0), 4);
        String first = Seen.of(bus);
        bus.pass(5);
        bus.addMaster();
        bus.give(0, 3);
        bus.setLatency(0, 1);
        bus.setCredit(0);
        bus.send(3, 2, 7, false);
        Due.is("save(1)", bus.save(1), 9);
        String second = Seen.of(bus);
        bus.pass(50);
        Due.is("restore(0)", bus.restore(0), 4);
        Due.same("the first state", Seen.of(bus), first);
        Due.is("restore(1)", bus.restore(1), 9);
        Due.same("the second state", Seen.of(bus), second);
        Due.is("latency", bus.setLatency(0, 9), 1);
        bus.pass(20);
        Due.is("restore(0) again", bus.restore(0), 4);
        Due.same("the first state again", Seen.of(bus), first);
        Due.is("latency", bus.setLatency(0, 9), 7);
        bus.pass(1);
        Due.is("save(0) over it", bus.save(0), 5);
        bus.pass(1);
        Due.is("restore(0)", bus.restore(0), 5);
    }

    private static void restoringForgets() {
        TurnBus bus = new TurnBus();
        Due.type(bus, "U2");
        bus.setCredit(1);
        bus.setCredit(2);
        bus.save(0);
        Due.is("undo", bus.undo(), 1);
        bus.setCredit(3);
        Due.refuses("restore(1)", STATE, () -> bus.restore(1));
        Due.is("a refused restore forgets nothing", bus.undo(), 1);
        bus.restore(0);
        Due.is("credit", bus.about(4), 2);
        Due.refuses("undo", STATE, bus::undo);
        bus.setCredit(5);
        Due.is("undo", bus.undo(), 0);
        Due.is("credit", bus.about(4), 2);
        Due.is("the text is no part of the state", bus.clearText(), 2);
    }

    private static void savingIsNoAction() {
        TurnBus bus = new TurnBus();
        bus.pass(7);
        bus.save(0);
        bus.save(1);
        Due.is("undo", bus.undo(), 0);
        Due.is("ticks", bus.about(2), 0);
        Due.is("undo keeps the save slots", bus.restore(0), 7);
    }
}
