/** The section 'Terms', but for its text: one test for each sentence that names a boundary; the comment is the sentence. */
public final class EdgeTermsTest {
    private static final Class<IllegalArgumentException> ARGUMENT = IllegalArgumentException.class;
    private static final Class<IllegalStateException> STATE = IllegalStateException.class;
    private static final Class<IndexOutOfBoundsException> INDEX = IndexOutOfBoundsException.class;
    private static final int NONE = TurnBus.NONE;

    public static void main(String[] args) {
        usedForManyCalls();
        mastersFromTwoToSix();
        slotsFromTwoToSixteen();
        firstOwners();
        slotOfTheTickWrapsAround();
        slotOfAFarTick();
        firstDebts();
        debtsAreAllTurnsOwed();
        sixBurstsWait();
        wordsOfABurst();
        slavesOfABurst();
        askingOrNot();
        latencies();
        readyFrom();
        latencyAsItIsThen();
        orderOfAnswers();
        somethingToDo();
        Due.end();
    }

    /** A frame in which some slots belong to the master 0, all others to the master 1; 16 actions at most. */
    static TurnBus frame(int slots, String parts, int... own) {
        TurnBus bus = Due.loaded("U2" + slots / 10 + slots % 10 + parts);
        for (int s = 0; s < slots; s++) {
            int owner = 1;
            for (int each : own) {
                owner = each == s ? 0 : owner;
            }
            bus.give(s, owner);
        }
        return bus;
    }

    // An object is used for at most 512 calls after it has been made.
    private static void usedForManyCalls() {
        TurnBus bus = new TurnBus();
        for (int i = 0; i < 511; i++) {
            bus.pass(99);
        }
        Due.is("the 512th call", bus.about(2), 511 * 99);
        TurnBus actions = new TurnBus();
        for (int i = 0; i < 497; i++) {
            actions.setLatency(3, i % 10);
        }
        for (int i = 13; i >= 0; i--) {
            Due.is("undo", actions.undo(), i);
        }
        Due.is("the 512th call", actions.setLatency(3, 0), 482 % 10);
    }

    // There are 2 to 6 masters, numbered from 0.
    private static void mastersFromTwoToSix() {
        for (int masters = 2; masters <= 6; masters++) {
            TurnBus bus = Due.loaded("U" + masters + "02");
            Due.is("masters", bus.about(0), masters);
            Due.range("a master of " + masters, 0, masters - 1, INDEX, m -> bus.master(m, 0));
        }
    }

    // And a frame of 2 to 16 slots, numbered from 0.
    private static void slotsFromTwoToSixteen() {
        for (int slots = 2; slots <= 16; slots++) {
            TurnBus bus = Due.loaded("U2" + slots / 10 + slots % 10);
            Due.is("slots", bus.about(1), slots);
            Due.range("a slot of " + slots, 0, slots - 1, INDEX, bus::owner);
        }
    }

    // In a new object there are 2 masters and 4 slots, and the slot s belongs to the master s % 2.
    private static void firstOwners() {
        TurnBus bus = new TurnBus();
        Due.is("masters", bus.about(0), 2);
        Due.is("slots", bus.about(1), 4);
        Due.range("a master of a new one", 0, 1, INDEX, m -> bus.master(m, 0));
        Due.range("a slot of a new one", 0, 3, INDEX, bus::owner);
        for (int s = 0; s < 4; s++) {
            Due.is("owner of " + s, bus.owner(s), s % 2);
        }
    }

    // Ticks are numbered from 0; the slot of the tick t is t % (the number of slots).
    private static void slotOfTheTickWrapsAround() {
        for (int slots = 2; slots <= 16; slots++) {
            for (int s = 0; s < slots; s++) {
                TurnBus bus = frame(slots, "c0b003-", s);
                StringBuilder want = new StringBuilder();
                for (int t = 0; t < 3 * slots; t++) {
                    want.append(t % slots == s ? '0' : '.');
                }
                Due.same("turns in the slot " + s + " of " + slots, Due.turns(bus, 3 * slots), want.toString());
            }
        }
    }

    private static void slotOfAFarTick() {
        TurnBus bus = frame(16, "c0", 3);
        for (int i = 0; i < 401; i++) {
            bus.pass(99);
        }
        Due.is("ticks: 2481 frames and 3", bus.about(2), 39699);
        bus.send(0, 0, 2, false);
        Due.is("its slot", bus.turnIn(0), 0);
        Due.is("the one before it, a frame later", bus.turnIn(15), NONE);
        Due.is("its slot, a frame later", bus.turnIn(16), 0);
    }

    // For each two masters a and b it is known how many turns a owes to b, at first 0.
    // A master is bankrupt or not, at first not.
    private static void firstDebts() {
        TurnBus bus = Due.loaded("U616");
        TurnBus joined = new TurnBus();
        for (int m = 2; m < 6; m++) {
            joined.addMaster();
        }
        for (int a = 0; a < 6; a++) {
            for (int b = 0; b < 6; b++) {
                Due.is("owes(" + a + ", " + b + ")", bus.owes(a, b), 0);
                Due.is("owes(" + a + ", " + b + ") of added ones", joined.owes(a, b), 0);
            }
        }
        Due.is("bankrupt", bus.about(9), 0);
        Due.is("bankrupt of added ones", joined.about(9), 0);
    }

    // The debts of a master are all turns that it owes.
    private static void debtsAreAllTurnsOwed() {
        TurnBus bus = Due.loaded("U616c9o000o010b008-");
        Due.same("a turn of its own two, one of each other", Due.turns(bus, 6), "000000");
        int[] owes = {0, 0, 1, 1, 1, 1};
        for (int b = 0; b < 6; b++) {
            Due.is("owes(0, " + b + ")", bus.owes(0, b), owes[b]);
        }
        Due.is("debts of 0", bus.master(0, 1), 4);
        Due.is("all turns that are owed", bus.about(5), 4);
    }

    // Each master has at most 6 bursts that wait, in the order in which they came.
    private static void sixBurstsWait() {
        TurnBus bus = Due.loaded("U202o000o010");
        for (int i = 0; i < 6; i++) {
            Due.is("send", bus.send(0, i % 4, i + 1, i % 2 == 0), i + 1);
        }
        Due.refuses("a seventh", STATE, () -> bus.send(0, 0, 1, false));
        Due.is("six of the other master", bus.send(1, 0, 1, false), 1);
        for (int i = 0; i < 6; i++) {
            Due.is("slave of " + i, bus.burst(0, i, 0), i % 4);
            Due.is("words of " + i, bus.burst(0, i, 1), i + 1);
            Due.is("asks of " + i, bus.burst(0, i, 2), 1 - i % 2);
        }
        Due.is("no seventh", bus.burst(0, 6, 0), NONE);
        bus.pass(1);
        Due.is("five wait then", bus.master(0, 3), 5);
        Due.is("a sixth again", bus.send(0, 3, 8, true), 6);
        Due.is("the second one is first", bus.burst(0, 0, 1), 2);
        Due.is("the new one is last", bus.burst(0, 5, 1), 8);
        Due.refuses("a seventh again", STATE, () -> bus.send(0, 0, 1, false));
    }

    // A burst has 1 to 8 words.
    private static void wordsOfABurst() {
        for (int words = 1; words <= 8; words++) {
            TurnBus bus = Due.loaded("U202o000o010c0");
            Due.is("send", bus.send(0, 0, words, false), 1);
            Due.is("words", bus.burst(0, 0, 1), words);
            Due.is("turns that are needed", bus.pass(20), words);
            Due.is("nothing waits", bus.about(6), 0);
        }
        TurnBus bus = new TurnBus();
        Due.refuses("0 words", ARGUMENT, () -> bus.send(0, 0, 0, false));
        Due.refuses("9 words", ARGUMENT, () -> bus.send(0, 0, 9, false));
    }

    // Is for one of the slaves 0 to 3.
    private static void slavesOfABurst() {
        for (int slave = 0; slave <= 3; slave++) {
            TurnBus bus = Due.loaded("U202o000o010l01l12l23l34");
            bus.send(0, slave, 1, true);
            Due.is("slave", bus.burst(0, 0, 0), slave);
            Due.is("its own latency", bus.doneIn(0), slave + 3);
        }
        TurnBus bus = new TurnBus();
        Due.refuses("slave 4", INDEX, () -> bus.send(0, 4, 1, false));
        Due.refuses("slave -1", INDEX, () -> bus.send(0, -1, 1, false));
    }

    // And asks for an answer or not.
    private static void askingOrNot() {
        TurnBus asks = new TurnBus();
        asks.send(0, 0, 1, true);
        asks.pass(1);
        Due.is("one that asks", asks.about(7), 1);
        TurnBus tells = new TurnBus();
        tells.send(0, 0, 1, false);
        tells.pass(1);
        Due.is("one that does not", tells.about(7), 0);
        TurnBus words = new TurnBus();
        words.send(0, 0, 2, true);
        words.pass(1);
        Due.is("one that asks, before its last word", words.about(7), 0);
    }

    // A slave has a latency of 0 to 9 ticks, at first 2.
    private static void latencies() {
        TurnBus bus = new TurnBus();
        TurnBus other = Due.loaded("U616");
        for (int slave = 0; slave <= 3; slave++) {
            Due.is("first latency", bus.setLatency(slave, 9), 2);
            Due.is("greatest latency", bus.setLatency(slave, 0), 9);
            Due.is("least latency", bus.setLatency(slave, 0), 0);
            Due.is("first latency of a loaded one", other.setLatency(slave, 0), 2);
        }
    }

    // When the last word of a burst that asks is sent in the tick t, its answer is ready from the tick
    // t + 1 + (the latency of the slave) on.
    private static void readyFrom() {
        for (int latency = 0; latency <= 9; latency++) {
            TurnBus bus = Due.loaded("U202o000o010b001+l0" + latency);
            String want = "0" + ".".repeat(latency) + "0.";
            Due.is("done with a latency of " + latency, bus.doneIn(0), latency + 2);
            Due.same("turns with a latency of " + latency, Due.turns(bus, latency + 3), want);
            Due.is("taken", bus.master(0, 10), 1);
            TurnBus words = Due.loaded("U202o000o010b003+l0" + latency);
            Due.same("the first words start nothing", Due.turns(words, latency + 5), "00" + want);
        }
    }

    // As it is then: the latency when the last word is sent, not the one before or behind it.
    private static void latencyAsItIsThen() {
        TurnBus bus = Due.loaded("U202o000o010b002+l01");
        bus.pass(1);
        bus.setLatency(0, 5);
        bus.pass(1);
        bus.setLatency(0, 9);
        Due.same("5 ticks between", Due.turns(bus, 7), ".....0.");
    }

    // Answers are kept in the order in which they were asked for.
    private static void orderOfAnswers() {
        TurnBus bus = Due.loaded("U202o000o010b001+b011+l04l10");
        Due.same("asked in 0 and 1, ready from 5 and 2", Due.turns(bus, 7), "000..0.");
        TurnBus both = Due.loaded("U202o000o010b001+b011+l02l11");
        Due.same("asked in 0 and 1, both ready from 3", Due.turns(both, 6), "00.00.");
        TurnBus last = Due.loaded("U202o000o010b001+b011+b021+l09l17l20");
        Due.same("asked in 0, 1 and 2, ready from 10, 9 and 3", Due.turns(last, 12), "0000.....00.");
        TurnBus middle = Due.loaded("U202o000o010b001+b011+b021+l09l10l27");
        Due.same("asked in 0, 1 and 3, ready from 10, 2 and 11", Due.turns(middle, 13), "0000......00.");
    }

    // A master has something to do in a tick if it has a burst, or an answer for it that is ready.
    private static void somethingToDo() {
        TurnBus late = Due.loaded("U202b001+l01");
        Due.same("ready in its own slot", Due.turns(late, 4), "0.0.");
        Due.is("then it owes nothing", late.owes(0, 1), 0);
        TurnBus credit = Due.loaded("U202b001+l02");
        Due.same("ready in another one's slot", Due.turns(credit, 4), "0..0");
        Due.is("then it has it on credit", credit.owes(0, 1), 1);
        TurnBus waits = Due.loaded("U202c0b001+l02o011");
        waits.pass(3);
        Due.is("one that is not ready makes it wait for nothing", waits.master(0, 5), 0);
        waits.pass(1);
        Due.is("one that is ready does", waits.master(0, 5), 1);
    }
}
