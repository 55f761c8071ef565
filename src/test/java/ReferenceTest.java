import java.util.Random;

/** All promises: long runs of drawn calls, each answer compared with the one of ReferenceBus. */
public final class ReferenceTest {
    private static final int CALLS = 512;

    private final Random random;
    private final TurnBus bus = new TurnBus();
    private final ReferenceBus reference = new ReferenceBus();
    private String pending = "";

    private ReferenceTest(long seed) {
        random = new Random(seed);
    }

    public static void main(String[] args) {
        int runs = args.length > 0 ? Integer.parseInt(args[0]) : 120;
        for (int run = 0; run < runs; run++) {
            new ReferenceTest(run).runOne("run " + run);
        }
        Due.end();
    }

    private void runOne(String name) {
        int style = random.nextInt(4);
        for (int i = 0; i < CALLS; i++) {
            call(name + ", call " + i + ": ", pending.isEmpty() ? method(style) : 0);
        }
    }

    // Some styles act more than they ask, so that debts and bankruptcies come up.
    private int method(int style) {
        if (style != 0 && random.nextInt(3) != 0) {
            int[] lively = {15, 15, 15, 15, 16, 16, 16, 12, 14, 11};
            return lively[random.nextInt(lively.length)];
        }
        return random.nextInt(27);
    }

    private int near(int most) {
        if (random.nextInt(40) == 0) {
            return random.nextBoolean() ? Integer.MAX_VALUE : Integer.MIN_VALUE;
        }
        return random.nextInt(12) == 0 ? random.nextInt(most + 3) - 1 : random.nextInt(most + 1);
    }

    private int aMaster() {
        return near(Math.max(0, reference.about(0) - 1));
    }

    private void call(String name, int method) {
        switch (method) {
            case 0: appendNext(name); break;
            case 1: compare(name + "clearText", bus::clearText, reference::clearText); break;
            case 2: startText(); break;
            case 3: compare(name + "errorPosition", bus::errorPosition, reference::errorPosition); break;
            case 4: compare(name + "load", bus::load, reference::load); break;
            case 5: one(name + "about", near(9), bus::about, reference::about); break;
            case 6: two(name + "master", aMaster(), near(10), bus::master, reference::master); break;
            case 7: one(name + "owner", near(15), bus::owner, reference::owner); break;
            case 8: two(name + "owes", aMaster(), aMaster(), bus::owes, reference::owes); break;
            case 9: callBurst(name); break;
            case 10: one(name + "order", near(6), bus::order, reference::order); break;
            case 11: if (random.nextInt(5) == 0) {
                    compare(name + "addMaster", bus::addMaster, reference::addMaster);
                }
                break;
            case 12: two(name + "give", near(15), aMaster(), bus::give, reference::give); break;
            case 13: two(name + "setLatency", near(3), near(9), bus::setLatency, reference::setLatency); break;
            case 14: one(name + "setCredit", near(9), bus::setCredit, reference::setCredit); break;
            case 15: callSend(name); break;
            case 16: one(name + "pass", 1 + near(random.nextInt(6) == 0 ? 98 : 6), bus::pass, reference::pass); break;
            case 17: two(name + "forgive", aMaster(), aMaster(), bus::forgive, reference::forgive); break;
            case 18: compare(name + "undo", bus::undo, reference::undo); break;
            default: callForecast(name, method); break;
        }
        if (random.nextInt(3) == 0) {
            look(name + "behind it ");
        }
    }

    private void callForecast(String name, int method) {
        switch (method) {
            case 19: one(name + "turnIn", near(random.nextBoolean() ? 9 : 99), bus::turnIn, reference::turnIn); break;
            case 20: one(name + "doneIn", aMaster(), bus::doneIn, reference::doneIn); break;
            case 21: compare(name + "bestCredit", bus::bestCredit, reference::bestCredit); break;
            case 22: one(name + "bestSlot", aMaster(), bus::bestSlot, reference::bestSlot); break;
            case 23: callScript(name); break;
            case 24: callSimulate(name); break;
            case 25: one(name + "save", near(1), bus::save, reference::save); break;
            default: one(name + "restore", near(1), bus::restore, reference::restore); break;
        }
    }

    private void appendNext(String name) {
        int c = near(255);
        if (!pending.isEmpty()) {
            c = pending.charAt(0);
            pending = pending.substring(1);
        }
        one(name + "append", c, bus::append, reference::append);
        if (pending.isEmpty() && random.nextInt(2) == 0) {
            compare(name + "errorPosition", bus::errorPosition, reference::errorPosition);
            compare(name + "load", bus::load, reference::load);
        }
    }

    private void startText() {
        if (random.nextInt(3) != 0) {
            return;
        }
        bus.clearText();
        reference.clearText();
        int masters = 2 + random.nextInt(5);
        int slots = 2 + random.nextInt(15);
        StringBuilder text = new StringBuilder("U" + masters + slots / 10 + slots % 10);
        for (int parts = random.nextInt(22); parts > 0; parts--) {
            text.append(part(masters, slots));
        }
        if (random.nextInt(4) == 0) {
            text.setCharAt(random.nextInt(text.length()), "U0123456789olcb+- ".charAt(random.nextInt(18)));
        }
        if (random.nextInt(6) == 0) {
            text.setLength(random.nextInt(text.length() + 1));
        }
        pending = text.toString();
    }

    private String part(int masters, int slots) {
        int slot = random.nextInt(slots);
        int owner = random.nextInt(masters);
        switch (random.nextInt(7)) {
            case 0: return "o" + slot / 10 + slot % 10 + owner;
            case 1: return "l" + random.nextInt(4) + random.nextInt(10);
            case 2: return "c" + random.nextInt(10);
            default: return "b" + owner + random.nextInt(4) + (1 + random.nextInt(8)) + (random.nextBoolean() ? "+" : "-");
        }
    }

    private void callBurst(String name) {
        int m = aMaster();
        int i = near(6);
        int what = near(2);
        compare(name + "burst", () -> bus.burst(m, i, what), () -> reference.burst(m, i, what));
    }

    private void callSend(String name) {
        int m = aMaster();
        int slave = near(3);
        int words = 1 + near(7);
        boolean asks = random.nextBoolean();
        compare(name + "send", () -> bus.send(m, slave, words, asks), () -> reference.send(m, slave, words, asks));
    }

    private void callScript(String name) {
        int n = random.nextInt(12) == 0 ? random.nextInt(6) - 1 : 1 + random.nextInt(3);
        long script = 0;
        for (int i = 0; i < n; i++) {
            script = script * 100000 + command(i == n - 1 && random.nextInt(3) != 0);
        }
        if (random.nextInt(25) == 0) {
            script = random.nextLong();
        }
        long all = script;
        compare(name + "runScript(" + n + ", " + all + ")", () -> bus.runScript(n, all), () -> reference.runScript(n, all));
    }

    private int command(boolean asksSomething) {
        int m = random.nextInt(reference.about(0) + (random.nextInt(10) == 0 ? 1 : 0));
        int k = random.nextInt(reference.about(0));
        int slot = random.nextInt(reference.about(1) + (random.nextInt(10) == 0 ? 1 : 0));
        int group = random.nextInt(100000);
        int some = random.nextInt(random.nextInt(3) == 0 ? 100 : 16);
        switch (asksSomething ? 6 + random.nextInt(5) : random.nextInt(11)) {
            case 0: break;
            case 1: group = 10000 + some; break;
            case 2: group = 20000 + m * 1000 + random.nextInt(5) * 100 + random.nextInt(10) * 10 + random.nextInt(2); break;
            case 3: group = 30000 + slot * 100 + m * 10; break;
            case 4: group = 40000 + m * 1000 + k * 100; break;
            case 5: group = 50000 + random.nextInt(10) * 1000; break;
            case 6: group = 60000 + m * 1000 + random.nextInt(4); break;
            case 7: group = 70000 + m * 1000 + some; break;
            case 8: group = 80000 + m * 1000 + random.nextInt(2); break;
            default: group = 90000 + m * 1000 + some; break;
        }
        int[] places = {1, 10, 100, 1000};
        return random.nextInt(8) == 0 ? group + places[random.nextInt(4)] : group;
    }

    private void callSimulate(String name) {
        long seed = random.nextInt(4) == 0 ? random.nextInt(5) - 2 : random.nextLong();
        int ticks = 1 + near(199);
        compare(name + "simulate(" + seed + ", " + ticks + ")",
            () -> bus.simulate(seed, ticks), () -> reference.simulate(seed, ticks));
    }

    /** Compares all that can be seen. */
    private void look(String name) {
        for (int what = 0; what <= 9; what++) {
            one(name + "about", what, bus::about, reference::about);
        }
        for (int m = 0; m < reference.about(0); m++) {
            for (int what = 0; what <= 10; what++) {
                two(name + "master", m, what, bus::master, reference::master);
            }
            for (int k = 0; k < reference.about(0); k++) {
                two(name + "owes", m, k, bus::owes, reference::owes);
            }
            one(name + "order", m, bus::order, reference::order);
        }
        for (int s = 0; s < reference.about(1); s++) {
            one(name + "owner", s, bus::owner, reference::owner);
        }
    }

    private interface One {
        int run(int a);
    }

    private interface Two {
        int run(int a, int b);
    }

    private static void one(String name, int a, One mine, One other) {
        compare(name + "(" + a + ")", () -> mine.run(a), () -> other.run(a));
    }

    private static void two(String name, int a, int b, Two mine, Two other) {
        compare(name + "(" + a + ", " + b + ")", () -> mine.run(a, b), () -> other.run(a, b));
    }

    private static void compare(String name, Due.Call mine, Due.Call other) {
        Due.same(name, answer(mine), answer(other));
    }

    private static String answer(Due.Call call) {
        try {
            return String.valueOf(call.run());
        } catch (RuntimeException e) {
            return e.getClass().getName();
        }
    }
}
