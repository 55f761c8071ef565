/** Promises 2 to 5: append, clearText, errorPosition, load. */
public final class TextTest {
    private static final Class<IllegalArgumentException> ARGUMENT = IllegalArgumentException.class;
    private static final Class<IllegalStateException> STATE = IllegalStateException.class;

    public static void main(String[] args) {
        appending();
        clearing();
        errorsOfTheHead();
        errorsOfOwners();
        errorsOfLatenciesAndCredits();
        errorsOfBursts();
        textsThatEndTooSoon();
        allowedSigns();
        loading();
        loadingForgets();
        Due.end();
    }

    private static int errorOf(String text) {
        TurnBus bus = new TurnBus();
        Due.type(bus, text);
        return bus.errorPosition();
    }

    private static void errorIs(String text, int want) {
        Due.is("errorPosition of " + text, errorOf(text), want);
    }

    private static void appending() {
        TurnBus bus = new TurnBus();
        Due.is("first", bus.append(0), 1);
        Due.is("second", bus.append(255), 2);
        Due.refuses("append(-1)", ARGUMENT, () -> bus.append(-1));
        Due.refuses("append(256)", ARGUMENT, () -> bus.append(256));
        Due.refuses("append(most)", ARGUMENT, () -> bus.append(Integer.MAX_VALUE));
        Due.refuses("append(least)", ARGUMENT, () -> bus.append(Integer.MIN_VALUE));
        for (int i = 3; i <= 120; i++) {
            Due.is("append", bus.append('c'), i);
        }
        Due.refuses("append to a full text", STATE, () -> bus.append('c'));
        Due.refuses("append(256) to a full text", ARGUMENT, () -> bus.append(256));
        Due.is("length", bus.clearText(), 120);
        Due.is("append after clearText", bus.append('U'), 1);
    }

    private static void clearing() {
        TurnBus bus = new TurnBus();
        Due.is("clearText of nothing", bus.clearText(), 0);
        Due.type(bus, "U204");
        Due.is("clearText", bus.clearText(), 4);
        Due.is("clearText again", bus.clearText(), 0);
        Due.is("errorPosition of nothing", bus.errorPosition(), 0);
        Due.type(bus, "U20");
        Due.is("errorPosition of a part", bus.errorPosition(), 3);
        Due.is("append", bus.append('4'), 4);
        Due.is("errorPosition of a bus", bus.errorPosition(), TurnBus.NONE);
    }

    private static void errorsOfTheHead() {
        errorIs("u204", 0);
        errorIs(" U204", 0);
        errorIs("U104", 1);
        errorIs("U704", 1);
        errorIs("Ux04", 1);
        errorIs("U224", 2);
        errorIs("U2x4", 2);
        errorIs("U200", 3);
        errorIs("U201", 3);
        errorIs("U202", TurnBus.NONE);
        errorIs("U209", TurnBus.NONE);
        errorIs("U210", TurnBus.NONE);
        errorIs("U616", TurnBus.NONE);
        errorIs("U617", 3);
        errorIs("U204x", 4);
        errorIs("U204 ", 4);
        errorIs("U204U204", 4);
        errorIs("U2040", 4);
    }

    private static void errorsOfOwners() {
        errorIs("U204o000", TurnBus.NONE);
        errorIs("U204o031", TurnBus.NONE);
        errorIs("U204o040", 6);
        errorIs("U204o100", 5);
        errorIs("U204o002", 7);
        errorIs("U210o090", TurnBus.NONE);
        errorIs("U210o100", 5);
        errorIs("U211o100", TurnBus.NONE);
        errorIs("U211o110", 6);
        errorIs("U616o155", TurnBus.NONE);
        errorIs("U616o160", 6);
        errorIs("U616o200", 5);
        errorIs("U616o156", 7);
        errorIs("U204O000", 4);
        errorIs("U204o0:0", 6);
        errorIs("U204o0/0", 6);
    }

    private static void errorsOfLatenciesAndCredits() {
        errorIs("U204l00l39", TurnBus.NONE);
        errorIs("U204l40", 5);
        errorIs("U204l0x", 6);
        errorIs("U204l+1", 5);
        errorIs("U204c0c9", TurnBus.NONE);
        errorIs("U204c+", 5);
        errorIs("U204c10", 6);
    }

    private static void errorsOfBursts() {
        errorIs("U204b001-b138+", TurnBus.NONE);
        errorIs("U204b201-", 5);
        errorIs("U304b201-", TurnBus.NONE);
        errorIs("U204b041-", 6);
        errorIs("U204b000-", 7);
        errorIs("U204b009-", 7);
        errorIs("U204b001*", 8);
        errorIs("U204b0011", 8);
        String six = "b001-b001+b001-b001+b001-b001+";
        errorIs("U204" + six, TurnBus.NONE);
        errorIs("U204" + six + "b0", 35);
        errorIs("U204" + six + "b001-", 35);
        errorIs("U204" + six + "b1", 36);
        errorIs("U204" + six + "b101-", TurnBus.NONE);
        errorIs("U204" + six + "b101-c3b001-", 42);
        errorIs("U204" + six + "b2", 35);
    }

    private static void textsThatEndTooSoon() {
        errorIs("", 0);
        String text = "U616o155l39c0b538+";
        for (int length = 0; length <= text.length(); length++) {
            boolean whole = length == 4 || length == 8 || length == 11 || length == 13 || length == 18;
            errorIs(text.substring(0, length), whole ? TurnBus.NONE : length);
        }
        StringBuilder full = new StringBuilder("U204");
        for (int i = 0; i < 58; i++) {
            full.append("c1");
        }
        errorIs(full.toString(), TurnBus.NONE);
        full.setLength(116);
        errorIs(full.append("c1c").toString(), 119);
        full.setLength(116);
        errorIs(full.append("l1c1").toString(), 118);
        full.setLength(116);
        errorIs(full.append("b001").toString(), 120);
    }

    // Each sign from 0 to 255 at each place of a text with all parts.
    private static void allowedSigns() {
        String text = "U311o102l25c7b127+";
        String[] allowed = {"U", "23456", "01", "0123456", "olcb", "01", "0", "012", "olcb", "0123",
            "0123456789", "olcb", "0123456789", "olcb", "012", "0123", "12345678", "+-"};
        for (int place = 0; place < text.length(); place++) {
            for (int c = 0; c <= 255; c++) {
                TurnBus bus = new TurnBus();
                Due.type(bus, text.substring(0, place));
                bus.append(c);
                int want = allowed[place].indexOf((char) c) < 0 ? place : restOf(place, text.length());
                Due.is("errorPosition with " + c + " at " + place, bus.errorPosition(), want);
            }
        }
    }

    private static int restOf(int place, int length) {
        int[] ends = {4, 8, 11, 13, 18};
        for (int end : ends) {
            if (end == place + 1) {
                return TurnBus.NONE;
            }
        }
        return place + 1 <= length ? place + 1 : TurnBus.NONE;
    }

    private static void loading() {
        TurnBus bus = Due.loaded("U305o042l07c9b012+b208-b231+o040l05o042o001");
        Due.is("masters", bus.about(0), 3);
        Due.is("slots", bus.about(1), 5);
        Due.is("ticks", bus.about(2), 0);
        Due.is("credit", bus.about(4), 9);
        Due.is("bursts", bus.about(6), 3);
        int[] owners = {1, 1, 2, 0, 2};
        for (int s = 0; s < owners.length; s++) {
            Due.is("owner of " + s, bus.owner(s), owners[s]);
        }
        Due.is("slave", bus.burst(0, 0, 0), 1);
        Due.is("words", bus.burst(0, 0, 1), 2);
        Due.is("asks", bus.burst(0, 0, 2), 1);
        Due.is("second words", bus.burst(2, 0, 1), 8);
        Due.is("second asks", bus.burst(2, 0, 2), 0);
        Due.is("third slave", bus.burst(2, 1, 0), 3);
        Due.is("latency of 0", bus.setLatency(0, 1), 5);
        Due.is("latency of 1", bus.setLatency(1, 1), 2);
        Due.is("loads again", bus.load(), 3);
        Due.is("latency of 0 again", bus.setLatency(0, 1), 5);
        Due.is("load keeps the text", bus.clearText(), 43);
        Due.refuses("load of nothing", STATE, bus::load);
        Due.is("a refused load changes nothing", bus.about(0), 3);
        Due.type(bus, "U616o");
        Due.refuses("load of a part", STATE, bus::load);
        Due.is("still 3 masters", bus.about(0), 3);
        Due.is("still the state to take back", bus.undo(), 0);
        TurnBus plain = Due.loaded("U604");
        Due.is("owner 3 of U604", plain.owner(3), 3);
        Due.is("credit of U604", plain.about(4), 4);
        Due.is("nothing waits", plain.about(6), 0);
        Due.is("master 5 owns nothing", plain.master(5, 0), 0);
    }

    private static void loadingForgets() {
        TurnBus bus = Due.loaded("U202b018-b018+l09");
        bus.save(0);
        bus.save(1);
        bus.pass(40);
        for (int i = 0; i < 6; i++) {
            bus.send(0, 0, 8, true);
            bus.send(1, 0, 8, true);
        }
        bus.pass(45);
        bus.give(0, 1);
        bus.pass(9);
        bus.give(0, 0);
        bus.give(1, 0);
        bus.pass(9);
        bus.turnIn(1);
        bus.addMaster();
        bus.setLatency(1, 9);
        Due.is("load", bus.load(), 2);
        Due.refuses("undo after load", STATE, bus::undo);
        Due.refuses("restore(0) after load", STATE, () -> bus.restore(0));
        Due.refuses("restore(1) after load", STATE, () -> bus.restore(1));
        for (int what = 0; what <= 9; what++) {
            int[] want = {2, 2, 0, 0, 4, 0, 2, 0, TurnBus.NONE, 0};
            Due.is("about(" + what + ") after load", bus.about(what), want[what]);
        }
        for (int what = 0; what <= 10; what++) {
            int[] want = {1, 0, 0, 2, 16, 0, 0, 0, 0, 0, 0};
            Due.is("master(0, " + what + ") after load", bus.master(0, what), want[what]);
        }
        for (int what = 1; what <= 10; what++) {
            Due.is("master(1, " + what + ") after load", bus.master(1, what), 0);
        }
        Due.is("latency of 1 after load", bus.setLatency(1, 2), 2);
    }
}
