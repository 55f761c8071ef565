/** Promise 24: one test for each sentence that names a boundary. */
public final class EdgeScriptTest {
    private static final Class<IllegalArgumentException> ARGUMENT = IllegalArgumentException.class;
    private static final int NONE = TurnBus.NONE;

    public static void main(String[] args) {
        numberOfCommands();
        negativeScripts();
        tooManyDigits();
        zerosBeforeIt();
        firstThatFails();
        passes();
        bursts();
        fullAndBankruptOnes();
        slots();
        debts();
        credits();
        debtsAtMost();
        waitedAtMost();
        bankruptOrNot();
        doneAtMost();
        anyOtherGroup();
        allGroups();
        onACopy();
        Due.end();
    }

    /** The master 2 is bankrupt, 1 has 6 bursts, 0 has waited for nothing and owes 1 a turn; 11 slots. */
    private static TurnBus bus() {
        TurnBus bus = Due.loaded("U311o021o032o052b001-");
        bus.pass(1);
        bus.send(2, 0, 1, false);
        bus.give(3, 0);
        bus.give(5, 0);
        bus.give(8, 0);
        bus.pass(1);
        Due.is("2 is bankrupt", bus.about(9), 4);
        bus.send(0, 0, 1, false);
        bus.pass(1);
        Due.is("owes(0, 1)", bus.owes(0, 1), 1);
        for (int i = 0; i < 6; i++) {
            bus.send(1, 0, 1, false);
        }
        return bus;
    }

    private static void succeeds(String group) {
        Due.is(group + " succeeds", bus().runScript(1, Long.parseLong(group)), NONE);
    }

    private static void fails(String group) {
        Due.is(group + " fails", bus().runScript(1, Long.parseLong(group)), 0);
    }

    private static int run(String text, String... groups) {
        return Due.loaded(text).runScript(groups.length, Long.parseLong(String.join("", groups)));
    }

    // n: number of commands, 1 to 3.
    private static void numberOfCommands() {
        Due.range("runScript", 1, 3, ARGUMENT, n -> bus().runScript(n, 10001));
    }

    // Throws IllegalArgumentException if script is negative.
    private static void negativeScripts() {
        for (int n = 1; n <= 3; n++) {
            int commands = n;
            for (long script : new long[] {-1, -10001, Integer.MIN_VALUE, Long.MIN_VALUE}) {
                Due.refuses("runScript(" + n + ", " + script + ")", ARGUMENT, () -> bus().runScript(commands, script));
            }
            Due.is("0 is no such", bus().runScript(n, 0), 0);
        }
    }

    // Or has more than 5 * n digits.
    private static void tooManyDigits() {
        long limit = 1;
        for (int n = 1; n <= 3; n++) {
            int commands = n;
            limit *= 100000;
            long first = limit;
            Due.is("the greatest one", bus().runScript(n, limit - 1), 0);
            Due.refuses("one more", ARGUMENT, () -> bus().runScript(commands, first));
            Due.refuses("twice as many", ARGUMENT, () -> bus().runScript(commands, 2 * first));
            Due.refuses("the greatest long", ARGUMENT, () -> bus().runScript(commands, Long.MAX_VALUE));
        }
        Due.is("10 digits for 3", bus().runScript(3, 1000110001L), 0);
        Due.is("15 digits for 3", bus().runScript(3, 100011000110001L), NONE);
        Due.refuses("15 digits for 2", ARGUMENT, () -> bus().runScript(2, 100011000110001L));
    }

    // The first command is the highest group of the number (with zeros before it, if it has fewer digits).
    private static void zerosBeforeIt() {
        Due.is("00000 10001", bus().runScript(2, 10001), 0);
        Due.is("10001 00000", bus().runScript(2, 1000100000L), 1);
        Due.is("00000 10001 10001", bus().runScript(3, 1000110001L), 0);
        Due.is("00001", bus().runScript(1, 1), 0);
    }

    // Returns the index, from 0, of the first command that fails; NONE if all succeed.
    private static void firstThatFails() {
        Due.is("the first", bus().runScript(3, 100000000010001L), 0);
        Due.is("the second", bus().runScript(3, 100011000010000L), 1);
        Due.is("the third", bus().runScript(3, 100011000110000L), 2);
        Due.is("none", bus().runScript(3, 100011000110001L), NONE);
    }

    // 1 0 0 x y: pass(xy); 0 ticks throw, and so fail; xy is a decimal number.
    private static void passes() {
        fails("10000");
        succeeds("10001");
        succeeds("10099");
        fails("10100");
        fails("11001");
        fails("10110");
        Due.is("10 ticks", run("U202c0b001-o001b118-b118-", "10010", "70010"), NONE);
        Due.is("10 ticks are more than 9", run("U202c0b001-o001b118-b118-", "10010", "70009"), 1);
        Due.is("1 tick", run("U202c0b001-o001b118-b118-", "10001", "70001"), NONE);
    }

    // 2 m s w a: send(m, s, w, a is 1) (a is 0 or 1).
    private static void bursts() {
        succeeds("20010");
        succeeds("20011");
        fails("20012");
        fails("20019");
        succeeds("20311");
        fails("20411");
        fails("20911");
        fails("20000");
        succeeds("20080");
        fails("20090");
        fails("23010");
        fails("29010");
        Due.is("without an answer", run("U202", "20010", "10001", "90000"), NONE);
        Due.is("with an answer", run("U202", "20011", "10001", "90000"), 2);
    }

    // They fail if the method would throw an exception.
    private static void fullAndBankruptOnes() {
        fails("21010");
        fails("22010");
        fails("30020");
        Due.is("a sixth", run("U202" + "b001-".repeat(5), "20010"), NONE);
        Due.is("and a seventh", run("U202" + "b001-".repeat(5), "20010", "20010"), 1);
        Due.is("bankrupt in the script", run("U302", "22010", "10001", "22010"), 2);
        Due.is("bankrupt in the script", run("U302", "22010", "10001", "30020"), 2);
        Due.is("not yet", run("U302", "22010", "30020", "22010"), NONE);
    }

    // 3 s s m 0: give(ss, m).
    private static void slots() {
        succeeds("30000");
        succeeds("30910");
        succeeds("31000");
        succeeds("31010");
        fails("31110");
        fails("32010");
        fails("39910");
        fails("31030");
        fails("31090");
        fails("31011");
        String none = "U211c0b101-o010o030o050o070o090";
        Due.is("the slot 10 is given", run(none, "31010", "91011"), NONE);
        Due.is("and no earlier one", run(none, "31010", "91010"), 1);
        Due.is("a slot is given", run("U202c0b101-", "30010", "91001"), NONE);
        Due.is("the slot 15 of 16", run("U216", "31510"), NONE);
        Due.is("the slot 16 of 16", run("U216", "31610"), 0);
        Due.is("the slot 1 of 2", run("U202", "30100"), NONE);
        Due.is("the slot 2 of 2", run("U202", "30200"), 0);
    }

    // 4 a b 0 0: forgive(a, b).
    private static void debts() {
        succeeds("40100");
        succeeds("41000");
        succeeds("40000");
        succeeds("42200");
        fails("43000");
        fails("40300");
        fails("40110");
        fails("40101");
        Due.is("none is left", bus().runScript(2, 4010060000L), NONE);
        Due.is("those to another one", bus().runScript(2, 4020060000L), 1);
    }

    // 5 c 0 0 0: setCredit(c).
    private static void credits() {
        for (int credit = 0; credit <= 9; credit++) {
            succeeds("5" + credit + "000");
        }
        fails("50100");
        fails("50010");
        fails("50001");
        Due.is("two words in two ticks", run("U202b002-", "51000", "90002"), NONE);
        Due.is("not without credit", run("U202b002-", "50000", "90002"), 1);
    }

    // 6 m 0 x y: succeeds if the debts of the master m are at most xy.
    private static void debtsAtMost() {
        fails("60000");
        succeeds("60001");
        succeeds("60010");
        succeeds("60099");
        succeeds("61000");
        succeeds("62000");
        fails("63099");
        fails("60101");
        fails("60901");
    }

    // 7 m 0 x y: succeeds if the master m has waited for at most xy ticks.
    private static void waitedAtMost() {
        succeeds("70000");
        succeeds("72000");
        fails("73099");
        fails("70100");
        String waits = "U202c0b001-o001b118-b118-";
        Due.is("0 at first", run(waits, "70000"), NONE);
        Due.is("11 at most 11", run(waits, "10011", "70011"), NONE);
        Due.is("11 at most 10", run(waits, "10011", "70010"), 1);
        Due.is("99 at most 99", run(waits, "10099", "70099"), NONE);
        Due.is("100 at most 99", run(waits, "10099", "10001", "70099"), 2);
    }

    // 8 m 0 0 b: succeeds if the master m is bankrupt (b is 1), or not (b is 0).
    private static void bankruptOrNot() {
        succeeds("80000");
        fails("80001");
        fails("82000");
        succeeds("82001");
        fails("82002");
        fails("80002");
        fails("80010");
        fails("80100");
        fails("83000");
        fails("83001");
    }

    // 9 m 0 x y: succeeds if doneIn(m) is at most xy, and not NONE.
    private static void doneAtMost() {
        succeeds("90000");
        succeeds("92000");
        fails("93000");
        fails("90100");
        String words = "U202c0o010" + "b008-".repeat(6);
        Due.is("48 at most 48", run(words, "90048"), NONE);
        Due.is("48 at most 47", run(words, "90047"), 0);
        String slow = "U216c0o021o041o061o081o101o121o141b00";
        Due.is("97 at most 97", run(slow + "7-", "90097"), NONE);
        Due.is("97 at most 96", run(slow + "7-", "90096"), 0);
        Due.is("113 at most 99", run(slow + "8-", "90099"), 0);
        Due.is("NONE at most 99", run("U202c0o001b001-", "90099"), 0);
        Due.is("done with 0 ticks", run("U202", "91000"), NONE);
    }

    // And so does any other group.
    private static void anyOtherGroup() {
        for (int group = 0; group < 10000; group += 7) {
            Due.is("the group " + group, Due.loaded("U202").runScript(1, group), 0);
        }
        fails("9999");
        fails("00000");
    }

    // Each group there is, as ReferenceBus tells it.
    private static void allGroups() {
        ReferenceBus reference = new ReferenceBus();
        for (char c : "U311o021o032c3b001+b102-b208-".toCharArray()) {
            reference.append(c);
        }
        reference.load();
        reference.pass(4);
        for (int first = 0; first < 100000; first += 400) {
            TurnBus bus = Due.loaded("U311o021o032c3b001+b102-b208-");
            bus.pass(4);
            for (int group = first; group < first + 400; group++) {
                Due.is("the group " + group, bus.runScript(1, group), reference.runScript(1, group));
            }
        }
    }

    // Runs a script on a copy of the state.
    private static void onACopy() {
        TurnBus bus = bus();
        for (String group : new String[] {"10099", "20081", "30010", "40100", "59000", "90099", "00000"}) {
            String before = Seen.of(bus);
            bus.runScript(3, Long.parseLong(group + "10050" + group));
            Due.same("all that can be seen behind " + group, Seen.of(bus), before);
        }
    }
}
