/** Compares answers with the ones that are due, prints the wrong ones, and ends a test. */
final class Due {
    interface Call {
        long run();
    }

    interface CallWith {
        long run(int argument);
    }

    private static int checked = 0;
    private static int wrong = 0;

    private Due() {
    }

    static void is(String what, long got, long want) {
        checked++;
        if (got != want) {
            wrong++;
            System.out.println(what + " answered " + got + ", due is " + want);
        }
    }

    static void refuses(String what, Class<? extends RuntimeException> want, Call call) {
        checked++;
        try {
            long got = call.run();
            wrong++;
            System.out.println(what + " answered " + got + ", due is " + want.getSimpleName());
        } catch (RuntimeException e) {
            if (e.getClass() != want) {
                wrong++;
                System.out.println(what + " threw " + e + ", due is " + want.getSimpleName());
            }
        }
    }

    static void accepts(String what, Call call) {
        checked++;
        try {
            call.run();
        } catch (RuntimeException e) {
            wrong++;
            System.out.println(what + " threw " + e + ", due is an answer");
        }
    }

    /** Each number from low to high is allowed; each number outside is refused. */
    static void range(String what, int low, int high, Class<? extends RuntimeException> want, CallWith call) {
        for (int a = low; a <= high; a++) {
            int argument = a;
            accepts(what + " with " + a, () -> call.run(argument));
        }
        for (int a : new int[] {low - 1, high + 1, Integer.MIN_VALUE, Integer.MAX_VALUE}) {
            refuses(what + " with " + a, want, () -> call.run(a));
        }
    }

    /** Appends all characters of a text. */
    static void type(TurnBus bus, String text) {
        for (int i = 0; i < text.length(); i++) {
            bus.append(text.charAt(i));
        }
    }

    /** A new object that has loaded the bus of the text. */
    static TurnBus loaded(String text) {
        TurnBus bus = new TurnBus();
        type(bus, text);
        bus.load();
        return bus;
    }

    /** The masters of the next turns, one sign a tick, with '.' for an idle one; the ticks go by. */
    static String turns(TurnBus bus, int ticks) {
        StringBuilder turns = new StringBuilder();
        for (int i = 0; i < ticks; i++) {
            bus.pass(1);
            turns.append(bus.about(8) == TurnBus.NONE ? "." : String.valueOf(bus.about(8)));
        }
        return turns.toString();
    }

    static void same(String what, String got, String want) {
        checked++;
        if (!got.equals(want)) {
            wrong++;
            System.out.println(what + " answered " + got + ", due is " + want);
        }
    }

    static void end() {
        System.out.println(checked + " answers checked, " + wrong + " wrong");
        if (wrong != 0) {
            System.exit(1);
        }
    }
}
