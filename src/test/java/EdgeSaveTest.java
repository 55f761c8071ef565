/** Promises 26 and 27: one test for each sentence that names a boundary. */
public final class EdgeSaveTest {
    private static final Class<IllegalStateException> STATE = IllegalStateException.class;
    private static final Class<IndexOutOfBoundsException> INDEX = IndexOutOfBoundsException.class;

    // In the tick 12, 0 pays 2, whose answer is ready then.
    static final String PAYS = "U404b008-b008-b101+b201+l09";

    public static void main(String[] args) {
        slotsOfSave();
        slotsOfRestore();
        nothingSaved();
        nothingSavedSinceTheLastLoad();
        numberOfTicks();
        twoSlots();
        allOfTheState();
        laterSaveReplaces();
        theSaveSlotKeepsIt();
        restoreForgetsStates();
        restoreKeepsTheText();
        saveIsNoAction();
        Due.end();
    }

    // save: throws IndexOutOfBoundsException if there is no such save slot; slot 0 or 1.
    private static void slotsOfSave() {
        Due.range("save", 0, 1, INDEX, new TurnBus()::save);
    }

    // restore: throws IndexOutOfBoundsException if there is no such save slot.
    private static void slotsOfRestore() {
        TurnBus bus = new TurnBus();
        bus.save(0);
        bus.save(1);
        Due.range("restore", 0, 1, INDEX, bus::restore);
        Due.refuses("no such save slot of a new one", INDEX, () -> new TurnBus().restore(2));
        Due.refuses("no such save slot of a new one", INDEX, () -> new TurnBus().restore(-1));
    }

    // Throws IllegalStateException if nothing has been saved in it.
    private static void nothingSaved() {
        for (int slot = 0; slot <= 1; slot++) {
            int its = slot;
            TurnBus bus = new TurnBus();
            Due.refuses("restore(" + slot + ") of a new one", STATE, () -> bus.restore(its));
            bus.save(1 - slot);
            Due.refuses("restore(" + slot + ") when the other one is saved", STATE, () -> bus.restore(its));
            bus.save(slot);
            Due.is("restore(" + slot + ")", bus.restore(slot), 0);
        }
    }

    // Since the last load.
    private static void nothingSavedSinceTheLastLoad() {
        for (int slot = 0; slot <= 1; slot++) {
            int its = slot;
            TurnBus bus = new TurnBus();
            bus.pass(3);
            bus.save(slot);
            Due.type(bus, "U204");
            bus.load();
            Due.refuses("restore(" + slot + ") behind load", STATE, () -> bus.restore(its));
            bus.pass(5);
            bus.save(slot);
            Due.is("restore(" + slot + ") of what was saved since", bus.restore(slot), 5);
            bus.append('x');
            Due.refuses("a load that is refused", STATE, bus::load);
            Due.is("restore(" + slot + ") behind it", bus.restore(slot), 5);
        }
    }

    // save returns the number of ticks that went by; restore that of then.
    private static void numberOfTicks() {
        TurnBus bus = new TurnBus();
        Due.is("save(0) ahead of the tick 0", bus.save(0), 0);
        bus.pass(99);
        bus.pass(1);
        Due.is("save(1) behind 100 ticks", bus.save(1), 100);
        Due.is("restore(0)", bus.restore(0), 0);
        Due.is("ticks", bus.about(2), 0);
        Due.is("restore(1)", bus.restore(1), 100);
        Due.is("ticks", bus.about(2), 100);
    }

    private static void twoSlots() {
        TurnBus bus = Due.loaded("U303b208+b101-l07");
        bus.pass(3);
        bus.save(1);
        String first = Seen.of(bus);
        bus.addMaster();
        bus.setLatency(0, 1);
        bus.send(3, 0, 2, true);
        bus.pass(9);
        bus.save(0);
        String second = Seen.of(bus);
        bus.restore(1);
        Due.same("the state of the slot 1", Seen.of(bus), first);
        bus.restore(0);
        Due.same("the state of the slot 0", Seen.of(bus), second);
    }

    // The state consists of everything but the text and the save slots: answers, counts and the longest waits too.
    private static void allOfTheState() {
        allOfTheState("U305o011o021b001+b012+b021+b101+b102-b201-b208-l09l15l23c6");
        allOfTheState(PAYS);
    }

    private static void allOfTheState(String text) {
        for (int ticks = 1; ticks <= 25; ticks++) {
            TurnBus bus = Due.loaded(text);
            bus.pass(ticks);
            bus.save(0);
            bus.pass(1);
            String later = Seen.of(bus);
            bus.undo();
            bus.pass(1);
            Due.same("behind undo of the tick " + ticks, Seen.of(bus), later);
            bus.restore(0);
            bus.pass(1);
            Due.same("behind restore of the tick " + ticks, Seen.of(bus), later);
        }
    }

    private static void laterSaveReplaces() {
        TurnBus bus = new TurnBus();
        bus.save(0);
        bus.pass(2);
        bus.save(0);
        bus.pass(2);
        Due.is("restore(0)", bus.restore(0), 2);
    }

    // The save slot keeps it: whatever comes behind restore.
    private static void theSaveSlotKeepsIt() {
        TurnBus bus = Due.loaded("U202b008-");
        bus.pass(1);
        bus.save(0);
        String saved = Seen.of(bus);
        for (int i = 0; i < 3; i++) {
            bus.restore(0);
            Due.same("the state that was saved", Seen.of(bus), saved);
            bus.pass(7);
            bus.give(0, 1);
            bus.setLatency(0, 9);
            bus.undo();
        }
    }

    // Forgets all remembered states.
    private static void restoreForgetsStates() {
        for (int actions = 0; actions <= 15; actions++) {
            TurnBus bus = new TurnBus();
            bus.save(1);
            for (int i = 0; i < actions; i++) {
                bus.pass(1);
            }
            bus.restore(1);
            Due.refuses("undo behind restore", STATE, bus::undo);
            bus.pass(4);
            Due.is("undo of what came behind it", bus.undo(), 0);
            Due.is("ticks", bus.about(2), 0);
        }
    }

    private static void restoreKeepsTheText() {
        TurnBus bus = new TurnBus();
        bus.save(0);
        Due.type(bus, "U204");
        bus.restore(0);
        Due.is("length", bus.clearText(), 4);
    }

    private static void saveIsNoAction() {
        TurnBus bus = new TurnBus();
        bus.save(0);
        Due.refuses("undo behind save", STATE, bus::undo);
        bus.pass(2);
        bus.save(1);
        Due.is("undo", bus.undo(), 0);
        Due.is("the save slot stays", bus.restore(1), 2);
    }
}
