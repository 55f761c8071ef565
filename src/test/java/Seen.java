/** All that can be seen of an object, as a text. */
final class Seen {
    private Seen() {
    }

    /** What the calls answer that change nothing. */
    static String of(TurnBus bus) {
        StringBuilder seen = new StringBuilder();
        for (int what = 0; what <= 9; what++) {
            seen.append(bus.about(what)).append(' ');
        }
        for (int m = 0; m < bus.about(0); m++) {
            seen.append('\n').append(ofMaster(bus, m));
        }
        seen.append('\n');
        for (int s = 0; s < bus.about(1); s++) {
            seen.append(bus.owner(s)).append(' ');
        }
        // The latencies can't be asked for: how a simulation ends depends on them.
        for (int seed = 1; seed <= 3; seed++) {
            seen.append(bus.simulate(seed, 60)).append(' ');
        }
        return seen.append(bus.bestCredit()).append(' ').append(bus.errorPosition()).toString();
    }

    private static String ofMaster(TurnBus bus, int m) {
        StringBuilder seen = new StringBuilder();
        for (int what = 0; what <= 10; what++) {
            seen.append(bus.master(m, what)).append(' ');
        }
        for (int b = 0; b < bus.about(0); b++) {
            seen.append(bus.owes(m, b)).append(' ');
        }
        for (int i = 0; bus.burst(m, i, 0) != TurnBus.NONE; i++) {
            seen.append(bus.burst(m, i, 0)).append(bus.burst(m, i, 1)).append(bus.burst(m, i, 2)).append(' ');
        }
        return seen.append(bus.order(m)).append(' ').append(bus.doneIn(m)).append(' ').append(bus.bestSlot(m)).toString();
    }

    /** Also what is remembered and what is saved; the object is used up by that. */
    static String toTheEnd(TurnBus bus) {
        StringBuilder seen = new StringBuilder(of(bus));
        for (int states = 15; states > 0; states = take(seen, bus::undo)) {
            seen.append(of(bus));
        }
        seen.append(latencies(bus));
        for (int slot = 0; slot < 2; slot++) {
            int from = slot;
            if (take(seen, () -> bus.restore(from)) >= 0) {
                seen.append(of(bus)).append(latencies(bus));
            }
        }
        return seen.append(bus.clearText()).toString();
    }

    private static String latencies(TurnBus bus) {
        StringBuilder seen = new StringBuilder("\nlatencies ");
        for (int slave = 0; slave < 4; slave++) {
            seen.append(bus.setLatency(slave, 0));
        }
        return seen.toString();
    }

    private static int take(StringBuilder seen, Due.Call call) {
        try {
            int got = (int) call.run();
            seen.append("\nanswered ").append(got).append('\n');
            return got;
        } catch (IllegalStateException e) {
            seen.append("\nrefused\n");
            return -1;
        }
    }
}
