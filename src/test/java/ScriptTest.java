/** Promises 24 and 25: runScript, simulate. */
public final class ScriptTest {
    private static final Class<IllegalArgumentException> ARGUMENT = IllegalArgumentException.class;
    private static final int NONE = TurnBus.NONE;

    public static void main(String[] args) {
        ranges();
        passes();
        sends();
        gives();
        forgives();
        credits();
        questions();
        otherGroups();
        sequences();
        effects();
        numbersOfTwoDigits();
        simulations();
        drawOfZero();
        drawsByHand();
        Due.end();
    }

    // The master 2 is bankrupt, 0 has a burst of 3 words and owes 1 a turn, 1 has nothing to do.
    private static TurnBus bus() {
        TurnBus bus = Due.loaded("U304o030b201-");
        bus.pass(1);
        bus.give(2, 0);
        bus.send(0, 0, 4, false);
        bus.pass(1);
        return bus;
    }

    private static void one(String what, int group, int want) {
        Due.is(what + ": " + group, bus().runScript(1, group), want);
    }

    private static void ranges() {
        TurnBus bus = bus();
        for (int n : new int[] {0, -1, 4, Integer.MAX_VALUE, Integer.MIN_VALUE}) {
            Due.refuses("n = " + n, ARGUMENT, () -> bus.runScript(n, 0));
        }
        for (int n = 1; n <= 3; n++) {
            int groups = n;
            long limit = n == 1 ? 100000L : n == 2 ? 10000000000L : 1000000000000000L;
            Due.refuses("too many digits", ARGUMENT, () -> bus.runScript(groups, limit));
            Due.refuses("far too many digits", ARGUMENT, () -> bus.runScript(groups, Long.MAX_VALUE));
            Due.refuses("below 0", ARGUMENT, () -> bus.runScript(groups, -1));
            Due.refuses("far below 0", ARGUMENT, () -> bus.runScript(groups, Long.MIN_VALUE));
            Due.is("all nines", bus.runScript(n, limit - 1), 0);
            Due.is("zero", bus.runScript(n, 0), 0);
        }
    }

    private static void passes() {
        one("pass(1)", 10001, NONE);
        one("pass(99)", 10099, NONE);
        one("pass(0)", 10000, 0);
        one("no 0", 11001, 0);
        one("no 0", 10101, 0);
    }

    private static void sends() {
        one("send", 21311, NONE);
        one("send without an answer", 20010, NONE);
        one("8 words", 20080, NONE);
        one("9 words", 20090, 0);
        one("0 words", 20000, 0);
        one("slave 4", 20410, 0);
        one("no such master", 23010, 0);
        one("far master", 29010, 0);
        one("a is 2", 20012, 0);
        one("a is 9", 20019, 0);
        Due.is("2 is bankrupt", bus().about(9), 4);
        one("bankrupt", 22010, 0);
        TurnBus full = Due.loaded("U202b001-b001-b001-b001-b001-b001-");
        Due.is("a seventh burst", full.runScript(1, 20010), 0);
        Due.is("the other master", full.runScript(1, 21010), NONE);
    }

    private static void gives() {
        one("give(0, 1)", 30010, NONE);
        one("give(3, 1)", 30310, NONE);
        one("no such slot", 30410, 0);
        one("slot 10", 31010, 0);
        one("slot 99", 39910, 0);
        one("no such master", 30030, 0);
        one("no 0", 30011, 0);
        TurnBus wide = Due.loaded("U216");
        Due.is("slot 15", wide.runScript(1, 31510), NONE);
        Due.is("slot 16", wide.runScript(1, 31610), 0);
        TurnBus ruined = new TurnBus();
        ruined.addMaster();
        ruined.send(2, 0, 1, false);
        ruined.pass(1);
        Due.is("a bankrupt one", ruined.runScript(1, 30020), 0);
        Due.is("a burst for a bankrupt one", ruined.runScript(1, 22010), 0);
        Due.is("a bankrupt one is bankrupt", ruined.runScript(1, 82001), NONE);
        Due.is("a bankrupt one is not", ruined.runScript(1, 82000), 0);
        Due.is("forgive a bankrupt one", ruined.runScript(1, 42000), NONE);
    }

    private static void forgives() {
        one("forgive(0, 1)", 40100, NONE);
        one("forgive(1, 1)", 41100, NONE);
        one("no such debtor", 43000, 0);
        one("no such creditor", 40300, 0);
        one("no 0", 40110, 0);
        one("no 0", 40101, 0);
        TurnBus debtor = Due.loaded("U202b003-");
        debtor.pass(2);
        Due.is("debts are 1", debtor.runScript(1, 60000), 0);
        Due.is("forgiven", debtor.runScript(2, 4010060000L), NONE);
        Due.is("the wrong way", debtor.runScript(2, 4100060000L), 1);
    }

    private static void credits() {
        one("setCredit(9)", 59000, NONE);
        one("setCredit(0)", 50000, NONE);
        one("no 0", 50100, 0);
        one("no 0", 50010, 0);
        one("no 0", 50001, 0);
        TurnBus bus = Due.loaded("U202b002-c0");
        Due.is("done in 3 without credit", bus.runScript(1, 90002), 0);
        Due.is("done in 2 with it", bus.runScript(2, 5100090002L), NONE);
    }

    private static void questions() {
        TurnBus bus = Due.loaded("U202c9b008-o001b101-");
        Due.is("1 is served, 0 waits", bus.runScript(2, 1000170000L), 1);
        Due.is("for one tick", bus.runScript(2, 1000170001L), NONE);
        Due.is("no 0", bus.runScript(1, 70101), 0);
        Due.is("no such master", bus.runScript(1, 72099), 0);
        TurnBus debtor = Due.loaded("U404b308-");
        Due.is("debts of at most 3", debtor.runScript(2, 1000563003L), 1);
        Due.is("debts of at most 4", debtor.runScript(2, 1000563004L), NONE);
        Due.is("debts of at most 99", debtor.runScript(2, 1000563099L), NONE);
        Due.is("no 0", debtor.runScript(1, 63104), 0);
        Due.is("no such master", debtor.runScript(1, 64004), 0);
        Due.is("not bankrupt", debtor.runScript(1, 83000), NONE);
        Due.is("bankrupt", debtor.runScript(1, 83001), 0);
        Due.is("b is 2", debtor.runScript(1, 83002), 0);
        Due.is("no 0", debtor.runScript(1, 83010), 0);
        Due.is("no 0", debtor.runScript(1, 83100), 0);
        Due.is("no such master", debtor.runScript(1, 84000), 0);
        Due.is("bankrupt with more credit", debtor.runScript(3, 590001000683001L), NONE);
        Due.is("done in 16", debtor.runScript(1, 93016), NONE);
        Due.is("not in 15", debtor.runScript(1, 93015), 0);
        Due.is("done at once", debtor.runScript(1, 90000), NONE);
        Due.is("no 0", debtor.runScript(1, 93116), 0);
        Due.is("no such master", debtor.runScript(1, 94099), 0);
        TurnBus never = Due.loaded("U202c0o001b001-");
        Due.is("never done", never.runScript(1, 90099), 0);
        TurnBus asked = Due.loaded("U202c0b002-b103-");
        Due.is("doneIn leaves the copy as it is", asked.runScript(3, 900039000391006L), NONE);
    }

    private static void otherGroups() {
        for (int group = 0; group < 10000; group++) {
            if (bus().runScript(1, group) != 0) {
                Due.is("the group " + group, NONE, 0);
            }
        }
        Due.is("groups with 0 fail", bus().runScript(1, 1), 0);
    }

    private static void sequences() {
        TurnBus bus = bus();
        Due.is("the second fails", bus.runScript(2, 1000100000L), 1);
        Due.is("the third fails", bus.runScript(3, 100011000100000L), 2);
        Due.is("the first of several", bus.runScript(3, 100010000000000L), 1);
        Due.is("zeros before it", bus.runScript(3, 10001), 0);
        Due.is("zeros before it", bus.runScript(2, 10001), 0);
        Due.is("all three", bus.runScript(3, 100011000110001L), NONE);
        Due.is("a burst, then its end", bus.runScript(3, 210101009991000L), NONE);
        Due.is("a slot and a question", bus.runScript(2, 3001091000L), NONE);
    }

    // Each command of the kinds 1 to 5 must change the copy: a question behind it tells.
    private static void effects() {
        Due.is("nothing is left", one("U202", "91000"), NONE);
        Due.is("a burst is left", one("U202", "2101091000"), 1);
        Due.is("a word in the slot 1, on credit in 0", one("U202", "2103091002"), 1);
        Due.is("three words", one("U202", "2103091003"), NONE);
        Due.is("with an answer", one("U202", "2103191005"), 1);
        Due.is("which is ready three ticks later", one("U202", "2103191006"), NONE);
        Due.is("the latency of its slave", one("U202l19", "2113191012"), 1);
        Due.is("the latency of its slave", one("U202l19", "2113191013"), NONE);
        Due.is("no slot", one("U202c0o011b101-", "91099"), NONE);
        Due.is("the slot is gone", one("U202c0b101-", "3010091099"), 1);
        Due.is("the slot 10", one("U211c0b001-o000o021o041o061o081o101", "310009000191000"), NONE);
        Due.is("a sixth burst", one("U202b001-b001-b001-b001-b001-", "20010"), NONE);
        Due.is("then a seventh", one("U202b001-b001-b001-b001-b001-", "2001020010"), 1);
        Due.is("ticks go by", one("U202c0b001-", "90000"), 0);
        Due.is("ticks go by", one("U202c0b001-", "1000190000"), NONE);
        TurnBus bus = Due.loaded("U202");
        bus.runScript(3, 210801010130100L);
        Due.is("the state stays", bus.about(6) + bus.about(2) + bus.owner(1), 1);
    }

    private static int one(String text, String script) {
        return Due.loaded(text).runScript((script.length() + 4) / 5, Long.parseLong(script));
    }

    private static void numbersOfTwoDigits() {
        String waits = "U202c0b001-o001b118-b118-";
        Due.is("15 ticks", one(waits, "1001570015"), NONE);
        Due.is("15 ticks are more than 14", one(waits, "1001570014"), 1);
        Due.is("16 ticks are more than 15", one(waits, "1001670015"), 1);
        Due.is("10 ticks are more than 9", one(waits, "1001070009"), 1);
        Due.is("98 ticks", one(waits, "1009870098"), NONE);
        Due.is("99 ticks are more than 98", one(waits, "1009970098"), 1);
        String words = "U202c0o010b008-b008-b008-";
        Due.is("done in 24", one(words, "90024"), NONE);
        Due.is("not in 23", one(words, "90023"), 0);
        Due.is("not 12 ticks later in 11", one(words, "1001290011"), 1);
        Due.is("12 ticks later in 12", one(words, "1001290012"), NONE);
        // 12 debts: three slots of its own, the credit raised again and again.
        String debtor = "U216c9o010o031o041o051o061o071o081o091o101o111o121o131o141o151b008-b008-b008-";
        Due.is("9 debts", one(debtor, "1001260009"), NONE);
        Due.is("9 debts are more than 8", one(debtor, "1001260008"), 1);
        TurnBus deep = Due.loaded(debtor);
        deep.pass(12);
        Due.is("debts", deep.master(0, 1), 9);
        Due.is("at most 10", deep.runScript(1, 60010), NONE);
    }

    // The seed behind which x is 0, so that r is 0: the master 0 gets a word for the slave 0.
    private static void drawOfZero() {
        long inverse = 1;
        for (int i = 0; i < 6; i++) {
            inverse *= 2 - 6364136223846793005L * inverse;
        }
        long seed = -1442695040888963407L * inverse;
        TurnBus bus = Due.loaded("U202o001o011");
        Due.is("it is sent on credit, and ruins the master 0", bus.simulate(seed, 1), 1);
        bus.setCredit(0);
        Due.is("it waits", bus.simulate(seed, 1), 1010);
    }

    private static void simulations() {
        TurnBus bus = new TurnBus();
        for (int ticks : new int[] {0, -1, 201, Integer.MAX_VALUE, Integer.MIN_VALUE}) {
            Due.refuses("simulate(1, " + ticks + ")", ARGUMENT, () -> bus.simulate(1, ticks));
        }
        Due.is("a state of a longer history", bus.pass(99), 0);
        for (long seed : new long[] {0, 1, -1, 3, Long.MAX_VALUE, Long.MIN_VALUE, 1442695040888963407L}) {
            for (int ticks : new int[] {1, 2, 3, 50, 199, 200}) {
                TurnBus twin = new TurnBus();
                twin.pass(99);
                Due.is("simulate(" + seed + ", " + ticks + ")", bus.simulate(seed, ticks), byCalls(twin, seed, ticks));
            }
        }
    }

    // The same by calls of the other methods.
    private static int byCalls(TurnBus bus, long seed, int ticks) {
        int idle = bus.about(3);
        long x = seed;
        for (int i = 0; i < ticks; i++) {
            x = x * 6364136223846793005L + 1442695040888963407L;
            int r = (int) (x >>> 33);
            if (r % 3 == 0) {
                try {
                    bus.send(r / 4 % bus.about(0), r / 64 % 4, 1 + r / 256 % 8, r / 2048 % 2 == 1);
                } catch (IllegalStateException e) {
                    // it is not possible
                }
            }
            bus.pass(1);
        }
        return 1000 * (bus.about(3) - idle) + 10 * bus.about(6) + Integer.bitCount(bus.about(9));
    }

    private static void drawsByHand() {
        TurnBus bus = Due.loaded("U302b201-");
        Due.is("a bankrupt one counts", bus.simulate(1, 1) % 10, 1);
        bus.pass(1);
        Due.is("one that was bankrupt before counts", bus.simulate(1, 1) % 10, 1);
        bus.pass(9);
        Due.is("idle ones of before do not count", bus.simulate(1, 1) / 1000 <= 1 ? 1 : 0, 1);
    }
}
