/** Promises 20 to 23: turnIn, doneIn, bestCredit, bestSlot. */
public final class ForecastTest {
    private static final Class<IllegalArgumentException> ARGUMENT = IllegalArgumentException.class;
    private static final Class<IndexOutOfBoundsException> INDEX = IndexOutOfBoundsException.class;

    public static void main(String[] args) {
        turns();
        doneTicks();
        doneInTheLastTick();
        doneWithoutBeingServed();
        credits();
        slots();
        nothingChanges();
        Due.end();
    }

    private static void turns() {
        TurnBus bus = Due.loaded("U303c1b004-b102+");
        StringBuilder got = new StringBuilder();
        for (int i = 0; i < 7; i++) {
            got.append(bus.turnIn(i) == TurnBus.NONE ? "." : String.valueOf(bus.turnIn(i)));
        }
        Due.same("turnIn", got.toString(), "01001.0");
        Due.same("the same turns", Due.turns(bus, 7), "01001.0");
        TurnBus late = Due.loaded("U202c0b001+l09");
        Due.is("turnIn(0)", late.turnIn(0), 0);
        Due.is("turnIn(9)", late.turnIn(9), TurnBus.NONE);
        Due.is("turnIn(10)", late.turnIn(10), 0);
        Due.is("turnIn(99)", late.turnIn(99), TurnBus.NONE);
        TurnBus far = Due.loaded("U216c0o000o011" + "b008-b008-b008-b008-b008-b008-");
        for (int s = 1; s < 16; s++) {
            far.give(s, 1);
        }
        Due.is("turnIn(96)", far.turnIn(96), 0);
        Due.is("turnIn(99) idle", far.turnIn(99), TurnBus.NONE);
        far.pass(13);
        Due.is("turnIn(99) behind 13", far.turnIn(99), 0);
        for (int ticks : new int[] {-1, 100, Integer.MAX_VALUE, Integer.MIN_VALUE}) {
            Due.refuses("turnIn(" + ticks + ")", ARGUMENT, () -> bus.turnIn(ticks));
        }
    }

    private static void doneTicks() {
        TurnBus bus = Due.loaded("U202c0b003-b101+");
        Due.is("doneIn(0): the ticks 0, 2, 4", bus.doneIn(0), 5);
        Due.is("doneIn(1): asks in 1, ready from 4, taken in 5", bus.doneIn(1), 6);
        bus.pass(5);
        Due.is("doneIn(0) when done", bus.doneIn(0), 0);
        Due.is("doneIn(1) with an answer", bus.doneIn(1), 1);
        TurnBus never = Due.loaded("U202c0o001b001-");
        Due.is("doneIn never", never.doneIn(0), TurnBus.NONE);
        Due.is("the other one", never.doneIn(1), 0);
        for (int m : new int[] {-1, 2, 6, Integer.MAX_VALUE, Integer.MIN_VALUE}) {
            Due.refuses("doneIn(" + m + ")", INDEX, () -> bus.doneIn(m));
        }
    }

    // One slot of sixteen: a word every 16 ticks, with the answers the 26th turn comes behind 400 ticks.
    private static void doneInTheLastTick() {
        StringBuilder text = new StringBuilder("U216c0");
        for (int s = 2; s < 16; s += 2) {
            text.append("o").append(s / 10).append(s % 10).append("1");
        }
        TurnBus bus = Due.loaded(text + "b008-b008-b008-");
        Due.is("24 turns", bus.doneIn(0), 369);
        bus.send(0, 0, 1, false);
        Due.is("25 turns", bus.doneIn(0), 385);
        bus.send(0, 0, 1, false);
        Due.is("26 turns, one tick too many", bus.doneIn(0), TurnBus.NONE);
        bus.pass(1);
        Due.is("25 turns and 15 ticks before them", bus.doneIn(0), 400);
        Due.is("a second slot, as soon as the first", bus.bestSlot(0), 1);
    }

    // Long idle times: the last answer is ready only when its slot has just gone by.
    private static void doneWithoutBeingServed() {
        for (int latency = 0; latency <= 9; latency++) {
            TurnBus bus = Due.loaded("U216c0o021o041o061o081o101o121o141b001+l0" + latency);
            Due.is("doneIn with latency " + latency, bus.doneIn(0), 17);
            bus.pass(1);
            Due.is("doneIn behind a tick with latency " + latency, bus.doneIn(0), 16);
            bus.give(0, 1);
            Due.is("doneIn without a slot with latency " + latency, bus.doneIn(0), TurnBus.NONE);
            bus.give(latency + 1, 0);
            Due.is("doneIn with the first slot with latency " + latency, bus.doneIn(0), latency + 1);
            bus.give(latency + 1, 1);
            bus.give(latency, 0);
            Due.is("doneIn with the slot before it with latency " + latency, bus.doneIn(0), latency + 16);
        }
        TurnBus ruined = Due.loaded("U302b208+");
        Due.is("doneIn of one whose bursts are dropped by ruin", ruined.doneIn(2), 1);
    }

    private static void credits() {
        Due.is("bestCredit of a new one", new TurnBus().bestCredit(), 0);
        TurnBus one = Due.loaded("U202b001-c9");
        Due.is("a single word", one.bestCredit(), 0);
        TurnBus two = Due.loaded("U202b002-");
        Due.is("a word on credit", two.bestCredit(), 1);
        TurnBus six = Due.loaded("U202b006-");
        Due.is("three words on credit", six.bestCredit(), 3);
        TurnBus nine = Due.loaded("U204o011o020o030b008-b008-b008-b008-b008-");
        Due.is("nine words on credit", nine.bestCredit(), 9);
        TurnBus never = Due.loaded("U202b001-o001o011c0");
        Due.is("only by credit: ruined in the first tick", never.bestCredit(), 1);
        // The fifth debt ruins the master 0, which drops its bursts.
        TurnBus ruin = Due.loaded("U202b008-b008-");
        Due.is("ruin is the fastest end", ruin.bestCredit(), 5);
        TurnBus both = Due.loaded("U303b008-b001-b108-c0");
        Due.is("all must be done", both.bestCredit(), bestByTrial(both));
        TurnBus late = Due.loaded("U216c0b008-b008-b008-b008-b008-b008-b108-b108-b108-b108-b108-b108-");
        Due.is("all turns are taken anyway", late.bestCredit(), 0);
    }

    // The credit with which the greatest doneIn is least, by trying all.
    private static int bestByTrial(TurnBus bus) {
        int best = 0;
        int fewest = 402;
        for (int credit = 0; credit <= 9; credit++) {
            bus.setCredit(credit);
            int ticks = 0;
            for (int m = 0; m < bus.about(0); m++) {
                ticks = Math.max(ticks, bus.doneIn(m) == TurnBus.NONE ? 401 : bus.doneIn(m));
            }
            bus.undo();
            if (ticks < fewest) {
                fewest = ticks;
                best = credit;
            }
        }
        return best;
    }

    private static void slots() {
        TurnBus bus = Due.loaded("U204c0b003-");
        Due.is("bestSlot(0): 1, 2 and 0, 1, 2 in a row", bus.bestSlot(0), 1);
        Due.is("bestSlot(1) with nothing to do", bus.bestSlot(1), 0);
        bus.pass(1);
        Due.is("bestSlot(0) in the tick 1", bus.bestSlot(0), 1);
        bus.pass(1);
        Due.is("bestSlot(0) in the tick 2", bus.bestSlot(0), 3);
        TurnBus never = Due.loaded("U303c0o000o010o020b208-b208-b208-b208-b208-b208-");
        Due.is("bestSlot(2), 48 words in 144 ticks", never.bestSlot(2), 0);
        TurnBus far = Due.loaded("U216c0b008-b008-b008-b008-b008-b008-b108-o000");
        for (int s = 0; s < 16; s++) {
            far.give(s, 1);
        }
        Due.is("bestSlot(0) when none is enough", far.bestSlot(0), 0);
        TurnBus ruined = new TurnBus();
        ruined.addMaster();
        ruined.send(2, 0, 1, false);
        ruined.pass(1);
        Due.is("bestSlot of a bankrupt one", ruined.bestSlot(2), TurnBus.NONE);
        for (int m : new int[] {-1, 3, 6, Integer.MAX_VALUE, Integer.MIN_VALUE}) {
            Due.refuses("bestSlot(" + m + ")", INDEX, () -> ruined.bestSlot(m));
        }
        // Two slots of sixteen: 50 turns, the last one in the last tick that counts.
        TurnBus edge = Due.loaded("U216c0b008+b008+b008-b008-b008-b008-");
        for (int s = 0; s < 16; s++) {
            edge.give(s, 1);
        }
        edge.pass(1);
        edge.give(0, 0);
        Due.is("bestSlot(0) with 400 ticks", edge.bestSlot(0), 1);
        edge.give(1, 0);
        Due.is("doneIn(0) with 400 ticks", edge.doneIn(0), 400);
        TurnBus last = Due.loaded("U216c0b001-");
        last.pass(15);
        last.send(0, 0, 1, false);
        last.give(0, 1);
        Due.is("the last slot", last.bestSlot(0), 15);
    }

    private static void nothingChanges() {
        TurnBus bus = Due.loaded("U303b003+b102-b208+");
        bus.pass(2);
        String before = Seen.of(bus);
        bus.turnIn(50);
        bus.doneIn(0);
        bus.doneIn(2);
        bus.bestCredit();
        bus.bestSlot(0);
        bus.bestSlot(2);
        bus.errorPosition();
        bus.runScript(3, 100505900010099L);
        bus.simulate(5, 100);
        Due.same("all numbers", Seen.of(bus), before);
    }
}
