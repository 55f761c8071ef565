/** Promises 20 to 23 and 25: one test for each sentence that names a boundary. */
public final class EdgeForecastTest {
    private static final Class<IllegalArgumentException> ARGUMENT = IllegalArgumentException.class;
    private static final Class<IndexOutOfBoundsException> INDEX = IndexOutOfBoundsException.class;
    private static final int NONE = TurnBus.NONE;

    public static void main(String[] args) {
        ticksOfTurnIn();
        turnsBehindSoManyOthers();
        mastersOfDoneIn();
        doneAtOnce();
        doneInFourHundred();
        doneInMore();
        neverDone();
        answersCountForDone();
        fewestTicksOfAll();
        smallestOfSeveralCredits();
        untilAllAreDone();
        creditOfAllDone();
        notDoneByThen();
        mastersOfBestSlot();
        bestSlotOfABankruptOne();
        smallestOfSeveralSlots();
        lastSlotIsBest();
        bestSlotInFourHundred();
        noSlotInFourHundred();
        ticksOfSimulate();
        seeds();
        drawOfZero();
        noBurstIsDrawn();
        masterThatIsDrawn();
        oneWordOrMore();
        drawForAFullOne();
        drawForABankruptOne();
        idleTicksOfThem();
        nothingChanges();
        Due.end();
    }

    // turnIn: ticks 0 to 99.
    private static void ticksOfTurnIn() {
        Due.range("turnIn", 0, 99, ARGUMENT, new TurnBus()::turnIn);
    }

    // The master that has the turn in the tick that goes by behind so many others; NONE if it is idle.
    private static void turnsBehindSoManyOthers() {
        TurnBus bus = EdgeTermsTest.frame(16, "c0b008-", 3);
        for (int ticks = 0; ticks <= 99; ticks++) {
            Due.is("turnIn(" + ticks + ")", bus.turnIn(ticks), ticks % 16 == 3 ? 0 : NONE);
        }
        bus.pass(1);
        Due.is("turnIn(98) a tick later", bus.turnIn(98), 0);
        Due.is("turnIn(99) a tick later", bus.turnIn(99), NONE);
        TurnBus next = Due.loaded("U202b101-");
        Due.is("the next tick", next.turnIn(0), 1);
        Due.is("the one behind it", next.turnIn(1), NONE);
    }

    // doneIn: throws IndexOutOfBoundsException if there is no such master.
    private static void mastersOfDoneIn() {
        for (int masters = 2; masters <= 6; masters++) {
            Due.range("doneIn", 0, masters - 1, INDEX, Due.loaded("U" + masters + "02")::doneIn);
        }
    }

    // The smallest number of ticks, 0 ..
    private static void doneAtOnce() {
        TurnBus bus = Due.loaded("U202b001-");
        Due.is("nothing waits", bus.doneIn(1), 0);
        Due.is("a word in the next tick", bus.doneIn(0), 1);
        bus.pass(1);
        Due.is("done", bus.doneIn(0), 0);
    }

    // .. to 400.
    private static void doneInFourHundred() {
        TurnBus bus = EdgeTermsTest.frame(16, "c0b008-b008-b008-", 15);
        Due.is("24 words in the slot 15", bus.doneIn(0), 384);
        bus.send(0, 0, 1, false);
        Due.is("25 words", bus.doneIn(0), 400);
        bus.pass(1);
        Due.is("a tick later", bus.doneIn(0), 399);
    }

    // NONE if there is none: one that takes 401 ticks has none.
    private static void doneInMore() {
        TurnBus bus = EdgeTermsTest.frame(16, "c0b008-b008-b008-b002-", 0);
        Due.is("26 words in the slot 0", bus.doneIn(0), NONE);
        bus.pass(1);
        Due.is("a tick later", bus.doneIn(0), 400);
        TurnBus answer = EdgeTermsTest.frame(16, "c0b008-b008-b008-b001+", 0);
        Due.is("25 words and an answer", answer.doneIn(0), NONE);
        answer.pass(1);
        Due.is("a tick later", answer.doneIn(0), 400);
    }

    private static void neverDone() {
        TurnBus bus = Due.loaded("U202c0o001b001-b101-");
        Due.is("without a slot", bus.doneIn(0), NONE);
        Due.is("the one with all slots", bus.doneIn(1), 1);
        bus.pass(99);
        Due.is("still without a slot", bus.doneIn(0), NONE);
    }

    // No burst that waits and no answer that is not taken: also none that is not ready.
    private static void answersCountForDone() {
        TurnBus bus = Due.loaded("U202b001+l09");
        Due.is("asked in the tick 0, taken in the tick 10", bus.doneIn(0), 11);
        bus.pass(1);
        Due.is("no burst waits", bus.about(6), 0);
        Due.is("the answer is not ready", bus.doneIn(0), 10);
        bus.pass(10);
        Due.is("it is taken", bus.doneIn(0), 0);
    }

    // bestCredit: the credit, 0 to 9, with which it would take the fewest ticks: as many words as are on credit.
    private static void fewestTicksOfAll() {
        for (int words = 1; words <= 10; words++) {
            String bursts = words <= 8 ? "b00" + words + "-" : "b008-b00" + (words - 8) + "-";
            TurnBus bus = EdgeTermsTest.frame(16, bursts, 13, 14, 15);
            Due.is("bestCredit for " + words + " words", bus.bestCredit(), Math.min(words, 9));
        }
    }

    // Among several the smallest: whatever the present one is.
    private static void smallestOfSeveralCredits() {
        for (int credit = 0; credit <= 9; credit++) {
            Due.is("its own turns are enough", Due.loaded("U202b001-c" + credit).bestCredit(), 0);
            Due.is("one on credit is enough", Due.loaded("U202b002-c" + credit).bestCredit(), 1);
        }
    }

    // Until all masters are done: the first and the last one too, with their answers.
    private static void untilAllAreDone() {
        for (int m = 0; m < 6; m++) {
            TurnBus bus = Due.loaded("U607o06" + m + "b" + m + "02-");
            Due.is("two words of " + m, bus.bestCredit(), m <= 1 ? 1 : 2);
        }
        TurnBus own = Due.loaded("U202o001o011b101+l01");
        Due.is("an answer in its own slot", own.bestCredit(), 0);
        TurnBus other = Due.loaded("U202o001o010b101+l00");
        Due.is("an answer in the slot of 0", other.bestCredit(), 1);
    }

    // With nothing to be done, each credit takes 0 ticks.
    private static void creditOfAllDone() {
        Due.is("a new one", new TurnBus().bestCredit(), 0);
        TurnBus bus = Due.loaded("U602b501-c9");
        bus.pass(1);
        Due.is("a bankrupt one is done", bus.about(9), 32);
        Due.is("bestCredit", bus.bestCredit(), 0);
    }

    // 400 at most; such as are not done by then count as 401.
    private static void notDoneByThen() {
        TurnBus bus = Due.loaded("U202o001b001-");
        Due.is("never without credit", bus.bestCredit(), 1);
        TurnBus slow = EdgeTermsTest.frame(16, "b008-b008-b008-b008-", 15);
        Due.is("five debts ruin it before all else", slow.bestCredit(), 5);
    }

    // bestSlot: throws IndexOutOfBoundsException if there is no such master.
    private static void mastersOfBestSlot() {
        for (int masters = 2; masters <= 6; masters++) {
            Due.range("bestSlot", 0, masters - 1, INDEX, Due.loaded("U" + masters + "02")::bestSlot);
        }
    }

    // NONE if it is bankrupt.
    private static void bestSlotOfABankruptOne() {
        TurnBus bus = Due.loaded("U302b201-b001-");
        Due.is("not yet", bus.bestSlot(2), 0);
        bus.pass(2);
        Due.is("bankrupt", bus.about(9), 4);
        Due.is("bestSlot(2)", bus.bestSlot(2), NONE);
        Due.is("bestSlot(1)", bus.bestSlot(1), 0);
    }

    // Among several the smallest number.
    private static void smallestOfSeveralSlots() {
        Due.is("done at once with each slot", new TurnBus().bestSlot(1), 0);
        TurnBus own = Due.loaded("U216c0b001-");
        Due.is("its own slot comes first anyway", own.bestSlot(0), 0);
        own.pass(1);
        own.send(0, 0, 2, false);
        Due.is("with the slot 1 at once", own.bestSlot(0), 1);
        TurnBus all = Due.loaded("U204c0o010o030b008-");
        Due.is("all slots are its own", all.bestSlot(0), 0);
    }

    private static void lastSlotIsBest() {
        for (int slots = 2; slots <= 16; slots++) {
            TurnBus bus = EdgeTermsTest.frame(slots, "c0b001-");
            bus.pass(slots - 1);
            Due.is("the slot that comes next", bus.bestSlot(0), slots - 1);
            bus.pass(1);
            Due.is("the slot behind it", bus.bestSlot(0), 0);
        }
    }

    // NONE counts as 401: a doneIn of 400 is smaller.
    private static void bestSlotInFourHundred() {
        TurnBus bus = EdgeTermsTest.frame(16, "c0b008+b008+b008-b008-b008-b008-");
        bus.pass(1);
        bus.give(0, 0);
        Due.is("50 turns in the slot 0", bus.doneIn(0), NONE);
        Due.is("50 turns in the slots 0 and 1", bus.bestSlot(0), 1);
        bus.give(1, 0);
        Due.is("400 ticks", bus.doneIn(0), 400);
        TurnBus edge = EdgeTermsTest.frame(16, "c0b008-b008-b008-b001-");
        edge.pass(1);
        Due.is("25 words: 385 ticks with the slot 1", edge.bestSlot(0), 1);
        edge.give(0, 0);
        Due.is("400 ticks with the slot 0", edge.doneIn(0), 400);
    }

    // If each one is NONE, the smallest number; 401 ticks are no fewer than 402.
    private static void noSlotInFourHundred() {
        TurnBus bus = EdgeTermsTest.frame(16, "c0b008-b008-b008-b002-");
        bus.pass(1);
        Due.is("26 words: 401 ticks with the slot 1, 416 with the slot 0", bus.bestSlot(0), 0);
        bus.give(1, 0);
        Due.is("doneIn(0) with the slot 1", bus.doneIn(0), NONE);
        Due.is("two slots are enough", bus.bestSlot(0), 2);
    }

    // simulate: m 1 to 200.
    private static void ticksOfSimulate() {
        Due.range("simulate", 1, 200, ARGUMENT, m -> new TurnBus().simulate(7, m));
    }

    // Any long may be the seed.
    private static void seeds() {
        for (long seed : new long[] {0, 1, -1, Long.MAX_VALUE, Long.MIN_VALUE, Integer.MAX_VALUE, Integer.MIN_VALUE}) {
            Due.accepts("simulate(" + seed + ")", () -> new TurnBus().simulate(seed, 200));
            ReferenceBus reference = new ReferenceBus();
            Due.is("simulate(" + seed + ")", new TurnBus().simulate(seed, 200), reference.simulate(seed, 200));
        }
        // Latencies that differ: the slave r / 64 % 4 shows.
        String text = "U304l00l13l26l39c1";
        ReferenceBus reference = new ReferenceBus();
        text.chars().forEach(reference::append);
        reference.load();
        for (int seed = -20; seed < 20; seed++) {
            Due.is("simulate(" + seed + ")", Due.loaded(text).simulate(seed, 200), reference.simulate(seed, 200));
        }
    }

    private static int draw(long seed) {
        return (int) ((seed * 6364136223846793005L + 1442695040888963407L) >>> 33);
    }

    // If r % 3 is 0: also if r is 0, for the master 0 and the slave 0 then, with a word.
    private static void drawOfZero() {
        long inverse = 1;
        for (int i = 0; i < 6; i++) {
            inverse *= 2 - 6364136223846793005L * inverse;
        }
        long seed = -1442695040888963407L * inverse;
        Due.is("r", draw(seed), 0);
        Due.is("it is sent", Due.loaded("U202c0o010").simulate(seed, 1), 0);
        Due.is("it waits", Due.loaded("U202c0o001").simulate(seed, 1), 1010);
    }

    // If r % 3 is 0, a master gets a burst: otherwise none does.
    private static void noBurstIsDrawn() {
        for (int seed = 0; seed < 40; seed++) {
            int idle = 1000;
            int waits = draw(seed) % 3 == 0 ? 10 : 0;
            TurnBus bus = Due.loaded("U604c0o005");
            boolean sent = waits > 0 && draw(seed) / 4 % 6 == 5;
            if (!sent) {
                Due.is("simulate(" + seed + ", 1)", bus.simulate(seed, 1), idle + waits);
            }
        }
    }

    // The master r / 4 % (their number).
    private static void masterThatIsDrawn() {
        for (int masters = 2; masters <= 6; masters++) {
            for (int seed = 0; seed < 60; seed++) {
                int r = draw(seed);
                for (int m = 0; m < masters && r % 3 == 0; m++) {
                    TurnBus bus = Due.loaded("U" + masters + "02c0o00" + m);
                    boolean isIt = r / 4 % masters == m;
                    int left = isIt && 1 + r / 256 % 8 == 1 ? 0 : 10;
                    Due.is("simulate(" + seed + ", 1)", bus.simulate(seed, 1), (isIt ? 0 : 1000) + left);
                }
            }
        }
    }

    // With 1 + r / 256 % 8 words: one word is sent in the tick itself, all eight of another one are not.
    private static void oneWordOrMore() {
        boolean[] found = new boolean[9];
        for (int seed = 0; seed < 4000; seed++) {
            int r = draw(seed);
            int words = 1 + r / 256 % 8;
            if (r % 3 == 0 && r / 2048 % 2 == 0 && !found[words]) {
                found[words] = true;
                TurnBus bus = Due.loaded("U202c0o00" + r / 4 % 2);
                Due.is("simulate with " + words + " words", bus.simulate(seed, 1), words == 1 ? 0 : 10);
            }
        }
        for (int words = 1; words <= 8; words++) {
            Due.is("a seed for " + words + " words", found[words] ? 1 : 0, 1);
        }
    }

    /** The first seed whose burst is for a master, of two. */
    private static long seedFor(int m, int masters) {
        long seed = 0;
        while (draw(seed) % 3 != 0 || draw(seed) / 4 % masters != m) {
            seed++;
        }
        return seed;
    }

    // If that is possible: not for a master that has 6 bursts.
    private static void drawForAFullOne() {
        for (int m = 0; m <= 1; m++) {
            String other = "o00" + (1 - m) + "o01" + (1 - m);
            TurnBus five = Due.loaded("U202c0" + other + ("b" + m + "01-").repeat(5));
            Due.is("a sixth burst", five.simulate(seedFor(m, 2), 1), 1060);
            TurnBus six = Due.loaded("U202c0" + other + ("b" + m + "01-").repeat(6));
            Due.is("no seventh", six.simulate(seedFor(m, 2), 1), 1060);
        }
    }

    // Nor for one that is bankrupt.
    private static void drawForABankruptOne() {
        TurnBus bus = Due.loaded("U302b201-");
        bus.pass(1);
        bus.setCredit(0);
        Due.is("for the bankrupt one", bus.simulate(seedFor(2, 3), 1), 1001);
        Due.is("for the one that has the next turn or not", bus.simulate(seedFor(0, 3), 1), 1011);
    }

    // 1000 * (the ticks of them that are idle): not those of before.
    private static void idleTicksOfThem() {
        TurnBus bus = Due.loaded("U202c0");
        bus.pass(99);
        long none = 0;
        while (draw(none) % 3 == 0) {
            none++;
        }
        Due.is("one idle tick", bus.simulate(none, 1), 1000);
        TurnBus busy = Due.loaded("U202c0o001o011b108-");
        busy.pass(2);
        Due.is("no idle tick", busy.simulate(none, 1), 10);
    }

    // These and all following methods up to the save slots change nothing.
    private static void nothingChanges() {
        TurnBus bus = Due.loaded("U303b003+b102-b208+l19");
        bus.pass(2);
        String before = Seen.of(bus);
        bus.turnIn(99);
        for (int m = 0; m < 3; m++) {
            bus.doneIn(m);
            bus.bestSlot(m);
        }
        bus.bestCredit();
        bus.runScript(3, 100995900032310L);
        bus.runScript(2, 4010000000L);
        bus.simulate(5, 200);
        Due.same("all that can be seen", Seen.of(bus), before);
        Due.is("no action", bus.undo(), 0);
    }
}
