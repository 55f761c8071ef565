/** The part 'TEXT' of the terms, and promises 2 to 5: one test for each sentence that names a boundary. */
public final class EdgeTextTest {
    private static final Class<IllegalArgumentException> ARGUMENT = IllegalArgumentException.class;
    private static final Class<IllegalStateException> STATE = IllegalStateException.class;
    private static final int NONE = TurnBus.NONE;
    private static final String SIX = "b001-b001-b001-b001-b001-b001-";

    public static void main(String[] args) {
        characterCodes();
        newLength();
        fullText();
        emptying();
        letterU();
        digitOfTheMasters();
        digitsOfTheSlots();
        ownersAtFirst();
        lettersOfParts();
        slotsOfAnOwner();
        mastersOfAnOwner();
        slavesAndLatencies();
        credits();
        bursts();
        sixBurstsOfEachMaster();
        sixBurstsOfAllMasters();
        laterPartsReplace();
        laterBurstsAreAdded();
        noBlanks();
        noDigitsOfOtherKinds();
        endsTooSoon();
        emptyText();
        wholeTextOf120();
        firstOfSeveralErrors();
        loadOfNoBus();
        loadOfAPart();
        burstsThatWait();
        loadIsAheadOfTheTickZero();
        loadForgetsAllOfTheState();
        loadForgetsStates();
        loadEmptiesSaveSlots();
        loadKeepsTheText();
        Due.end();
    }

    private static int errorOf(String text) {
        TurnBus bus = new TurnBus();
        Due.type(bus, text);
        return bus.errorPosition();
    }

    /** The text has its error at a place, and load refuses it; or it has none, and load takes it. */
    private static void error(String text, int want) {
        Due.is("errorPosition of " + text, errorOf(text), want);
        TurnBus bus = new TurnBus();
        Due.type(bus, text);
        if (want == NONE) {
            Due.accepts("load of " + text, bus::load);
        } else {
            Due.refuses("load of " + text, STATE, bus::load);
        }
    }

    private static String two(int number) {
        return "" + number / 10 + number % 10;
    }

    // append: c: character code, 0 to 255.
    private static void characterCodes() {
        TurnBus bus = new TurnBus();
        Due.range("append", 0, 255, ARGUMENT, c -> {
            int length = bus.append(c);
            bus.clearText();
            return length;
        });
        Due.is("a refused one is not appended", bus.clearText(), 0);
    }

    // Returns the new length of the text.
    private static void newLength() {
        TurnBus bus = new TurnBus();
        for (int length = 1; length <= 120; length++) {
            Due.is("append", bus.append(length), length);
        }
    }

    // Throws IllegalStateException if the text already has 120 characters; IllegalArgumentException comes before it.
    private static void fullText() {
        TurnBus bus = new TurnBus();
        Due.type(bus, "U204" + "c1".repeat(57) + "c");
        Due.is("the 120th", bus.append('7'), 120);
        Due.refuses("a 121st", STATE, () -> bus.append('c'));
        Due.refuses("a 121st again", STATE, () -> bus.append(0));
        Due.refuses("a 121st that is out of range", ARGUMENT, () -> bus.append(256));
        Due.refuses("a 121st below the range", ARGUMENT, () -> bus.append(-1));
        Due.is("the text stays", bus.errorPosition(), NONE);
        bus.load();
        Due.is("its last character counts", bus.about(4), 7);
        Due.is("its length", bus.clearText(), 120);
        Due.is("then there is room", bus.append('c'), 1);
    }

    // clearText: empties the text buffer; returns the previous length of the text.
    private static void emptying() {
        TurnBus bus = new TurnBus();
        Due.is("of a new one", bus.clearText(), 0);
        bus.append('U');
        Due.is("of a character", bus.clearText(), 1);
        Due.is("of nothing", bus.clearText(), 0);
        Due.type(bus, "U204");
        bus.clearText();
        Due.type(bus, "U2");
        Due.is("nothing is left of the one before", bus.errorPosition(), 2);
        Due.type(bus, "c".repeat(118));
        Due.is("of a full one", bus.clearText(), 120);
        Due.is("then it is empty", bus.errorPosition(), 0);
    }

    // A bus is the letter U ..
    private static void letterU() {
        for (int c = 0; c <= 255; c++) {
            error((char) c + "204", c == 'U' ? NONE : 0);
        }
    }

    // .. a digit for the number of masters (2 to 6) ..
    private static void digitOfTheMasters() {
        for (int digit = 0; digit <= 9; digit++) {
            error("U" + digit + "04", digit >= 2 && digit <= 6 ? NONE : 1);
        }
    }

    // .. two digits for the number of slots (02 to 16).
    private static void digitsOfTheSlots() {
        for (int slots = 0; slots <= 99; slots++) {
            boolean fits = slots >= 2 && slots <= 16;
            error("U2" + two(slots), fits ? NONE : slots < 20 ? 3 : 2);
            if (fits) {
                Due.is("slots", Due.loaded("U2" + two(slots)).about(1), slots);
            }
        }
    }

    // At first the slot s belongs to the master s % (the number of masters).
    private static void ownersAtFirst() {
        for (int masters = 2; masters <= 6; masters++) {
            TurnBus bus = Due.loaded("U" + masters + "16");
            for (int s = 0; s < 16; s++) {
                Due.is("owner of " + s, bus.owner(s), s % masters);
            }
        }
    }

    // And then any number of parts, in any order: none, or each letter of o, l, c and b, and no other sign.
    private static void lettersOfParts() {
        for (int c = 0; c <= 255; c++) {
            error("U204" + (char) c, "olcb".indexOf((char) c) >= 0 ? 5 : 4);
        }
        error("U204", NONE);
        error("U204o001l01c0b001+", NONE);
        error("U204b001+c0l01o001", NONE);
        error("U204c0o001c0b001+l01o001", NONE);
    }

    // The letter o, two digits for a slot that there is ..
    private static void slotsOfAnOwner() {
        for (int slots = 2; slots <= 16; slots++) {
            for (int s = 0; s <= 99; s++) {
                int want = s < slots ? NONE : s / 10 > (slots - 1) / 10 ? 5 : 6;
                error("U2" + two(slots) + "o" + two(s) + "1", want);
                if (s < slots) {
                    Due.is("owner", Due.loaded("U2" + two(slots) + "o" + two(s) + "1").owner(s), 1);
                }
            }
        }
    }

    // .. and one for its owner.
    private static void mastersOfAnOwner() {
        for (int masters = 2; masters <= 6; masters++) {
            for (int owner = 0; owner <= 9; owner++) {
                error("U" + masters + "04o03" + owner, owner < masters ? NONE : 7);
            }
        }
    }

    // The letter l, a digit for a slave (0 to 3) and one for its latency.
    private static void slavesAndLatencies() {
        for (int digit = 0; digit <= 9; digit++) {
            error("U204l" + digit + "5", digit <= 3 ? NONE : 5);
            error("U204l0" + digit, NONE);
            Due.is("latency", Due.loaded("U204l3" + digit).setLatency(3, 1), digit);
        }
        error("U204l0123", 7);
    }

    // The letter c and a digit for the credit.
    private static void credits() {
        for (int digit = 0; digit <= 9; digit++) {
            error("U204c" + digit, NONE);
            Due.is("credit", Due.loaded("U204c" + digit).about(4), digit);
        }
        error("U204c10", 6);
    }

    // The letter b, a digit for a master, one for a slave, one for the words (1 to 8) and a + or a -.
    private static void bursts() {
        for (int digit = 0; digit <= 9; digit++) {
            for (int masters = 2; masters <= 6; masters++) {
                error("U" + masters + "04b" + digit + "01+", digit < masters ? NONE : 5);
            }
            error("U204b0" + digit + "1+", digit <= 3 ? NONE : 6);
            error("U204b00" + digit + "+", digit >= 1 && digit <= 8 ? NONE : 7);
        }
        for (int c = 0; c <= 255; c++) {
            error("U204b001" + (char) c, c == '+' || c == '-' ? NONE : 8);
        }
    }

    // At most 6 of these for each master; a digit is not allowed if it is that of a master that has 6 bursts behind a b.
    private static void sixBurstsOfEachMaster() {
        for (int m = 0; m < 6; m++) {
            String full = "U604" + SIX.replace("b0", "b" + m);
            error(full, NONE);
            error(full + "b", 35);
            for (int digit = 0; digit <= 9; digit++) {
                error(full + "b" + digit + "01-", digit < 6 && digit != m ? NONE : 35);
            }
            error(full + "o03" + m + "l00c" + m, NONE);
            error(full.substring(0, 29) + "c0b" + m + "01+", NONE);
        }
    }

    // Also if no master is left that may have one: then a b is allowed, and no digit behind it.
    private static void sixBurstsOfAllMasters() {
        String full = "U204" + SIX + SIX.replace("b0", "b1");
        error(full, NONE);
        error(full + "b", 65);
        for (int digit = 0; digit <= 9; digit++) {
            error(full + "b" + digit, 65);
        }
        error(full + "c1", NONE);
        String three = full.replace("U2", "U3");
        error(three + "b201-", NONE);
        error(three + SIX.replace("b0", "b2"), NONE);
        error(three + SIX.replace("b0", "b2") + "b201-", 95);
    }

    // Later parts with o, l and c replace earlier ones.
    private static void laterPartsReplace() {
        TurnBus bus = Due.loaded("U304o031l19c9o032l10c0o001o000");
        Due.is("owner of 3", bus.owner(3), 2);
        Due.is("owner of 0", bus.owner(0), 0);
        Due.is("credit", bus.about(4), 0);
        Due.is("latency of 1", bus.setLatency(1, 5), 0);
        Due.is("latency of 0", bus.setLatency(0, 5), 2);
    }

    // Those with b don't: each one is one more, in their order.
    private static void laterBurstsAreAdded() {
        TurnBus bus = Due.loaded("U204b001-b012+b001-");
        Due.is("bursts", bus.master(0, 3), 3);
        Due.is("words of the first", bus.burst(0, 0, 1), 1);
        Due.is("words of the second", bus.burst(0, 1, 1), 2);
        Due.is("words of the third", bus.burst(0, 2, 1), 1);
    }

    // There are no blanks.
    private static void noBlanks() {
        String text = "U304o012l25c7b127+";
        for (int place = 0; place <= text.length(); place++) {
            error(text.substring(0, place) + " " + text.substring(place), place);
        }
        error(" ", 0);
        error("U204\n", 4);
    }

    private static void noDigitsOfOtherKinds() {
        for (char c : new char[] {'/', ':', 'a', '+', '-', 178, 185, 0}) {
            error("U" + c + "04", 1);
            error("U2" + c + "4", 2);
            error("U20" + c, 3);
            error("U204c" + c, 5);
            error("U204l0" + c, 6);
        }
    }

    // If the text ends too soon, it is the length of the text.
    private static void endsTooSoon() {
        String text = "U304o012l25c7b127+";
        for (int length = 0; length <= text.length(); length++) {
            boolean isBus = length == 4 || length == 8 || length == 11 || length == 13 || length == 18;
            error(text.substring(0, length), isBus ? NONE : length);
        }
        error("U204" + "c1".repeat(57) + "b0", 120);
        error("U204" + "c1".repeat(57) + "c", 119);
    }

    private static void emptyText() {
        error("", 0);
        TurnBus bus = new TurnBus();
        Due.is("of a new one", bus.errorPosition(), 0);
        Due.refuses("load of a new one", STATE, bus::load);
    }

    // The object has a text buffer of at most 120 characters: one that is full may be a bus.
    private static void wholeTextOf120() {
        error("U204" + "c1".repeat(58), NONE);
        error("U204" + "c1".repeat(57) + "cx", 119);
        error("U204" + "c1".repeat(57) + "l1", 120);
        error("U204" + "c1".repeat(56) + "o031", NONE);
        error("U204" + "c1".repeat(55) + "l11l12", NONE);
    }

    // The first character that these rules do not allow at its place.
    private static void firstOfSeveralErrors() {
        error("xyz", 0);
        error("U999", 1);
        error("U299", 2);
        error("U204o991c", 5);
        error("U204cxcx", 5);
        error("U204c1 c1 ", 6);
    }

    // load: throws IllegalStateException if the text is not a bus.
    private static void loadOfNoBus() {
        TurnBus bus = new TurnBus();
        bus.setCredit(3);
        for (String text : new String[] {"", "U", "U20", "U204x", "U204c", "U204b009+", "U204o041", "u204"}) {
            bus.clearText();
            Due.type(bus, text);
            Due.refuses("load of " + text, STATE, bus::load);
            Due.is("the state stays", bus.about(4), 3);
            Due.is("the text stays", bus.errorPosition(), errorOf(text));
        }
        Due.is("the remembered state stays", bus.undo(), 0);
    }

    // Nothing of a text that is no bus is loaded, also not the parts ahead of the error.
    private static void loadOfAPart() {
        TurnBus bus = new TurnBus();
        Due.type(bus, "U616o005l09c9b018+b");
        Due.refuses("load", STATE, bus::load);
        int[] about = {2, 4, 0, 0, 4, 0, 0, 0, NONE, 0};
        for (int what = 0; what <= 9; what++) {
            Due.is("about(" + what + ")", bus.about(what), about[what]);
        }
        Due.is("owner", bus.owner(0), 0);
        Due.is("latency", bus.setLatency(0, 1), 2);
    }

    // Returns the number of bursts that wait.
    private static void burstsThatWait() {
        StringBuilder parts = new StringBuilder();
        for (int bursts = 0; bursts <= 23; bursts++) {
            TurnBus bus = new TurnBus();
            Due.type(bus, "U602" + parts);
            Due.is("load", bus.load(), bursts);
            Due.is("bursts", bus.about(6), bursts);
            parts.append("b").append(bursts % 6).append("38+");
        }
    }

    // Replaces everything by the bus of the text, ahead of the tick 0.
    private static void loadIsAheadOfTheTickZero() {
        TurnBus bus = Due.loaded("U302b201+b008+");
        for (int i = 0; i < 5; i++) {
            bus.pass(1);
            bus.setLatency(i % 4, 9);
            Seen.of(bus);
        }
        Due.is("2 is bankrupt", bus.about(9) / 4, 1);
        bus.send(1, 0, 2, true);
        bus.give(0, 1);
        bus.pass(5);
        Seen.of(bus);
        bus.load();
        Due.same("as a new one that loads", Seen.toTheEnd(bus), Seen.toTheEnd(Due.loaded("U302b201+b008+")));
        TurnBus smaller = Due.loaded("U616b501+c0");
        smaller.pass(6);
        smaller.clearText();
        Due.type(smaller, "U202");
        smaller.load();
        Due.same("from a larger one", Seen.toTheEnd(smaller), Seen.toTheEnd(Due.loaded("U202")));
        TurnBus larger = Due.loaded("U202");
        larger.clearText();
        Due.type(larger, "U616b501+c0");
        larger.load();
        Due.same("from a smaller one", Seen.toTheEnd(larger), Seen.toTheEnd(Due.loaded("U616b501+c0")));
    }

    private static void loadForgetsAllOfTheState() {
        for (int ticks = 1; ticks <= 25; ticks++) {
            TurnBus bus = Due.loaded(EdgeSaveTest.PAYS);
            bus.pass(ticks);
            bus.turnIn(0);
            bus.load();
            Due.same("behind " + ticks + " ticks", Seen.toTheEnd(bus), Seen.toTheEnd(Due.loaded(EdgeSaveTest.PAYS)));
        }
        TurnBus paid = Due.loaded(EdgeSaveTest.PAYS);
        paid.pass(13);
        Due.is("paid back to 2", paid.master(2, 8), 1);
    }

    // Forgets all remembered states.
    private static void loadForgetsStates() {
        for (int actions = 0; actions <= 15; actions++) {
            TurnBus bus = Due.loaded("U204");
            for (int i = 0; i < actions; i++) {
                bus.setCredit(i % 10);
            }
            bus.load();
            Due.refuses("undo behind load", STATE, bus::undo);
            bus.setCredit(7);
            Due.is("undo of what came behind it", bus.undo(), 0);
            Due.is("credit", bus.about(4), 4);
        }
    }

    // And empties both save slots.
    private static void loadEmptiesSaveSlots() {
        TurnBus bus = Due.loaded("U204");
        bus.save(0);
        bus.save(1);
        bus.load();
        Due.refuses("restore(0)", STATE, () -> bus.restore(0));
        Due.refuses("restore(1)", STATE, () -> bus.restore(1));
        bus.save(1);
        bus.clearText();
        Due.refuses("a load that is refused", STATE, bus::load);
        Due.is("empties none", bus.restore(1), 0);
    }

    // Keeps the text.
    private static void loadKeepsTheText() {
        TurnBus bus = Due.loaded("U204c1");
        Due.is("one more character", bus.append('c'), 7);
        Due.is("errorPosition", bus.errorPosition(), 7);
        bus.append('9');
        bus.load();
        Due.is("credit", bus.about(4), 9);
        Due.is("length", bus.clearText(), 8);
    }
}
