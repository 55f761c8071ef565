/** Promises 1, 6 to 16, 18 and 19: one test for each sentence that names a boundary. */
public final class EdgeCallsTest {
    private static final Class<IllegalArgumentException> ARGUMENT = IllegalArgumentException.class;
    private static final Class<IllegalStateException> STATE = IllegalStateException.class;
    private static final Class<IndexOutOfBoundsException> INDEX = IndexOutOfBoundsException.class;
    private static final int NONE = TurnBus.NONE;

    public static void main(String[] args) {
        numbersOfAbout();
        lastTurn();
        bankruptBits();
        answersThatAreNotTaken();
        mastersOfMaster();
        numbersOfMaster();
        slotsOfOwner();
        mastersOfOwes();
        burstsOfBurst();
        placesOfOrder();
        orderOfDebts();
        sixMastersAtMost();
        addedMasters();
        slotsAndMastersOfGive();
        giveToABankruptOne();
        giveToItsOwner();
        slavesAndLatencies();
        credits();
        argumentsOfSend();
        sendToAFullOne();
        sendToABankruptOne();
        firstExceptionOfSend();
        mastersOfForgive();
        allThatIsOwed();
        nothingToTakeBack();
        fourteenStates();
        theOldestIsForgotten();
        undoIsNoAction();
        actionsWithoutEffect();
        noOtherActions();
        textIsNoPartOfTheState();
        Due.end();
    }

    /** The master 2 is bankrupt; the master 0 owns the slots 0 and 2, the master 1 the slots 1 and 3. */
    private static TurnBus withBankrupt() {
        TurnBus bus = Due.loaded("U304o030o020b201-");
        bus.give(2, 2);
        bus.give(2, 0);
        bus.pass(1);
        Due.is("2 is bankrupt", bus.about(9), 4);
        bus.give(3, 1);
        return bus;
    }

    // about: throws IllegalArgumentException if what is not 0 to 9.
    private static void numbersOfAbout() {
        Due.range("about", 0, 9, ARGUMENT, new TurnBus()::about);
    }

    // about 8: NONE if the last tick was idle, or none went by.
    private static void lastTurn() {
        TurnBus bus = Due.loaded("U602c0b501-o015");
        Due.is("none went by", bus.about(8), NONE);
        bus.pass(1);
        Due.is("it was idle", bus.about(8), NONE);
        bus.pass(1);
        Due.is("it was not", bus.about(8), 5);
        bus.pass(1);
        Due.is("it was idle again", bus.about(8), NONE);
        bus.undo();
        Due.is("as before", bus.about(8), 5);
        bus.setCredit(1);
        Due.is("other actions are no ticks", bus.about(8), 5);
    }

    // about 9: the bankrupt masters, bit m set for the master m.
    private static void bankruptBits() {
        TurnBus bus = Due.loaded("U602");
        Due.is("none", bus.about(9), 0);
        int bits = 0;
        for (int m = 5; m >= 2; m--) {
            bus.send(m, 0, 1, false);
            bus.pass(1);
            bits += 1 << m;
            Due.is("bits", bus.about(9), bits);
        }
        bus.give(0, 1);
        bus.give(1, 1);
        bus.send(0, 0, 1, false);
        bus.pass(1);
        Due.is("bits of 0 too", bus.about(9), 61);
    }

    // about 7: the answers that are not taken yet, whether they are ready or not; at most 10 for a master.
    private static void answersThatAreNotTaken() {
        TurnBus bus = Due.loaded("U202o000o010c0" + "b001+".repeat(6) + "l09");
        int sent = 6;
        for (int t = 1; t <= 10; t++) {
            bus.pass(1);
            Due.is("answers", bus.about(7), t);
            if (sent < 12) {
                bus.send(0, 0, 1, true);
                sent++;
            }
        }
        for (int t = 1; t <= 10; t++) {
            bus.pass(1);
            Due.is("answers", bus.about(7), 10 - t);
            Due.is("taken", bus.master(0, 10), t);
        }
        Due.is("two bursts are left", bus.about(6), 2);
    }

    // master: throws IndexOutOfBoundsException if there is no such master.
    private static void mastersOfMaster() {
        TurnBus bus = new TurnBus();
        for (int masters = 2; masters <= 6; masters++) {
            Due.range("master", 0, masters - 1, INDEX, m -> bus.master(m, 0));
            if (masters < 6) {
                bus.addMaster();
            }
        }
        bus.undo();
        Due.refuses("one that was taken back", INDEX, () -> bus.master(5, 0));
        Due.refuses("also with a wrong what", INDEX, () -> bus.master(5, 11));
    }

    // Throws IllegalArgumentException if what is not 0 to 10.
    private static void numbersOfMaster() {
        Due.range("master", 0, 10, ARGUMENT, what -> new TurnBus().master(1, what));
    }

    // owner: throws IndexOutOfBoundsException if there is no such slot.
    private static void slotsOfOwner() {
        Due.range("owner in a new one", 0, 3, INDEX, new TurnBus()::owner);
        Due.range("owner of 2 slots", 0, 1, INDEX, Due.loaded("U602")::owner);
        Due.range("owner of 16 slots", 0, 15, INDEX, Due.loaded("U216")::owner);
    }

    // owes: throws IndexOutOfBoundsException if there is no such master.
    private static void mastersOfOwes() {
        for (int masters = 2; masters <= 6; masters++) {
            TurnBus bus = Due.loaded("U" + masters + "02");
            int last = masters - 1;
            Due.range("owes(.., 0)", 0, last, INDEX, m -> bus.owes(m, 0));
            Due.range("owes(last, ..)", 0, last, INDEX, m -> bus.owes(last, m));
            Due.is("to itself", bus.owes(last, last), 0);
        }
    }

    // burst: NONE if there are not so many bursts; IllegalArgumentException if i is negative, or what is not 0 to 2.
    private static void burstsOfBurst() {
        TurnBus bus = Due.loaded("U202" + "b001+".repeat(6));
        Due.range("burst(0, 0, ..)", 0, 2, ARGUMENT, what -> bus.burst(0, 0, what));
        Due.range("burst(.., 0, 0)", 0, 1, INDEX, m -> bus.burst(m, 0, 0));
        for (int i : new int[] {-1, -9, Integer.MIN_VALUE}) {
            Due.refuses("burst(0, " + i + ", 0)", ARGUMENT, () -> bus.burst(0, i, 0));
            Due.refuses("burst(2, " + i + ", 0)", INDEX, () -> bus.burst(2, i, 0));
        }
        for (int what = 0; what <= 2; what++) {
            Due.is("the sixth", bus.burst(0, 5, what), what == 0 ? 0 : 1);
            Due.is("a seventh", bus.burst(0, 6, what), NONE);
            Due.is("a far one", bus.burst(0, Integer.MAX_VALUE, what), NONE);
            Due.is("the first of none", bus.burst(1, 0, what), NONE);
        }
        bus.pass(1);
        Due.is("the fifth of five", bus.burst(0, 4, 1), 1);
        Due.is("the sixth of five", bus.burst(0, 5, 1), NONE);
        Due.refuses("a wrong what of none", ARGUMENT, () -> bus.burst(1, 0, 3));
    }

    // order: NONE if there are not so many; throws IllegalArgumentException if place is negative.
    private static void placesOfOrder() {
        TurnBus bus = new TurnBus();
        for (int masters = 2; masters <= 6; masters++) {
            for (int place = 0; place < masters; place++) {
                Due.is("order(" + place + ")", bus.order(place), place);
            }
            Due.is("order(" + masters + ")", bus.order(masters), NONE);
            Due.is("order(most)", bus.order(Integer.MAX_VALUE), NONE);
            if (masters < 6) {
                bus.addMaster();
            }
        }
        Due.refuses("order(-1)", ARGUMENT, () -> bus.order(-1));
        Due.refuses("order(-9)", ARGUMENT, () -> bus.order(-9));
        Due.refuses("order(least)", ARGUMENT, () -> bus.order(Integer.MIN_VALUE));
    }

    // Those with greater debts are first, of several the lowest one.
    private static void orderOfDebts() {
        TurnBus bus = Due.loaded("U416o000o010o020o030o041o051o062o072o083o093o101o112o123b302-");
        Due.same("3 takes two turns of 0", Due.turns(bus, 2), "33");
        bus.send(1, 0, 2, false);
        Due.same("1 takes two turns of 0", Due.turns(bus, 2), "11");
        bus.pass(2);
        bus.send(0, 0, 1, false);
        Due.same("0 takes a turn of 2", Due.turns(bus, 1), "0");
        int[] want = {1, 3, 0, 2, NONE};
        for (int place = 0; place < want.length; place++) {
            Due.is("order(" + place + ")", bus.order(place), want[place]);
        }
    }

    // addMaster: throws IllegalStateException if there are 6 masters.
    private static void sixMastersAtMost() {
        TurnBus bus = new TurnBus();
        for (int m = 2; m <= 5; m++) {
            Due.is("addMaster", bus.addMaster(), m);
        }
        Due.refuses("a seventh", STATE, bus::addMaster);
        bus.undo();
        Due.is("the sixth again", bus.addMaster(), 5);
        Due.refuses("a seventh of a loaded one", STATE, Due.loaded("U602")::addMaster);
        Due.is("a sixth of a loaded one", Due.loaded("U502").addMaster(), 5);
        TurnBus ruined = Due.loaded("U602b501-");
        ruined.pass(1);
        Due.is("5 is bankrupt", ruined.about(9), 32);
        Due.refuses("a bankrupt one counts", STATE, ruined::addMaster);
    }

    // Adds a master that owns no slots.
    private static void addedMasters() {
        TurnBus bus = new TurnBus();
        bus.pass(5);
        bus.addMaster();
        for (int what = 0; what <= 10; what++) {
            Due.is("master(2, " + what + ")", bus.master(2, what), 0);
        }
        Due.is("give(0, 2)", bus.give(0, 2), 0);
        Due.is("slots", bus.master(2, 0), 1);
        bus.pass(20);
        Due.is("not bankrupt", bus.about(9), 0);
    }

    // give: throws IndexOutOfBoundsException if there is no such slot or master.
    private static void slotsAndMastersOfGive() {
        for (int slots = 2; slots <= 16; slots += 7) {
            TurnBus bus = Due.loaded("U5" + slots / 10 + slots % 10);
            Due.range("give(.., 4)", 0, slots - 1, INDEX, s -> bus.give(s, 4));
            Due.range("give(1, ..)", 0, 4, INDEX, m -> bus.give(1, m));
        }
        TurnBus bus = withBankrupt();
        Due.refuses("no such slot, and a bankrupt master", INDEX, () -> bus.give(4, 2));
        Due.refuses("no such master", INDEX, () -> bus.give(0, 3));
    }

    // Throws IllegalStateException if this master is bankrupt.
    private static void giveToABankruptOne() {
        TurnBus bus = withBankrupt();
        Due.refuses("give(0, 2)", STATE, () -> bus.give(0, 2));
        Due.is("the slot stays", bus.owner(0), 0);
        for (int i = 0; i < 2; i++) {
            bus.undo();
        }
        Due.is("not bankrupt", bus.about(9), 0);
        Due.is("give(0, 2)", bus.give(0, 2), 0);
        Due.is("owner(0)", bus.owner(0), 2);
    }

    // Returns the previous owner, also if that is the new one.
    private static void giveToItsOwner() {
        TurnBus bus = new TurnBus();
        Due.is("give(0, 0)", bus.give(0, 0), 0);
        Due.is("give(0, 1)", bus.give(0, 1), 0);
        Due.is("give(0, 1) again", bus.give(0, 1), 1);
        Due.is("the last slot", bus.give(3, 0), 1);
        Due.is("slots of 0", bus.master(0, 0), 2);
    }

    // setLatency: IndexOutOfBoundsException if there is no such slave; IllegalArgumentException if latency is out of range.
    private static void slavesAndLatencies() {
        TurnBus bus = new TurnBus();
        Due.range("setLatency(.., 0)", 0, 3, INDEX, slave -> bus.setLatency(slave, 0));
        Due.refuses("no slave, no latency", INDEX, () -> bus.setLatency(4, 10));
        Due.refuses("no slave, no latency", INDEX, () -> bus.setLatency(-1, -1));
        for (int slave = 0; slave <= 3; slave++) {
            int its = slave;
            Due.range("setLatency(slave, ..)", 0, 9, ARGUMENT, latency -> bus.setLatency(its, latency));
            Due.is("the last one that was allowed", bus.setLatency(slave, 0), 9);
        }
    }

    // setCredit: throws IllegalArgumentException if credit is out of range.
    private static void credits() {
        TurnBus bus = new TurnBus();
        Due.range("setCredit", 0, 9, ARGUMENT, bus::setCredit);
        Due.is("the last one that was allowed", bus.about(4), 9);
        Due.is("returns the previous one", bus.setCredit(0), 9);
        Due.is("returns the previous one", bus.setCredit(0), 0);
    }

    // send: IndexOutOfBoundsException if there is no such master or slave; IllegalArgumentException if words is out of range.
    private static void argumentsOfSend() {
        TurnBus bus = new TurnBus();
        Due.range("send(.., 0, 1, true)", 0, 1, INDEX, m -> bus.send(m, 0, 1, true));
        Due.range("send(0, .., 1, false)", 0, 3, INDEX, slave -> bus.send(0, slave, 1, false));
        TurnBus words = new TurnBus();
        Due.range("send(1, 3, .., true)", 1, 8, ARGUMENT, n -> {
            int count = words.send(1, 3, n, true);
            words.undo();
            return count;
        });
        Due.is("nothing is left", words.about(6), 0);
    }

    // Throws IllegalStateException if the master has 6 bursts.
    private static void sendToAFullOne() {
        for (int m = 0; m <= 1; m++) {
            TurnBus bus = new TurnBus();
            int full = m;
            for (int count = 1; count <= 6; count++) {
                Due.is("send", bus.send(m, 0, 1, false), count);
            }
            Due.refuses("a seventh", STATE, () -> bus.send(full, 0, 1, false));
            Due.is("the other one has room", bus.send(1 - m, 0, 1, false), 1);
            Due.is("bursts", bus.about(6), 7);
        }
        TurnBus loaded = Due.loaded("U202" + "b108-".repeat(6));
        Due.refuses("a seventh of a loaded one", STATE, () -> loaded.send(1, 0, 1, false));
    }

    // Throws IllegalStateException if the master is bankrupt.
    private static void sendToABankruptOne() {
        TurnBus bus = withBankrupt();
        Due.refuses("send", STATE, () -> bus.send(2, 0, 1, false));
        Due.is("no bursts", bus.master(2, 3), 0);
    }

    // If several exceptions apply to a call, the one that its description names first is thrown.
    private static void firstExceptionOfSend() {
        TurnBus bus = withBankrupt();
        Due.refuses("no master, no slave, no words", INDEX, () -> bus.send(3, 4, 0, true));
        Due.refuses("no master, no words", INDEX, () -> bus.send(-1, 0, 9, true));
        Due.refuses("no slave, no words, bankrupt", INDEX, () -> bus.send(2, 4, 0, true));
        Due.refuses("no slave, bankrupt", INDEX, () -> bus.send(2, -1, 1, true));
        Due.refuses("no words, bankrupt", ARGUMENT, () -> bus.send(2, 0, 0, true));
        for (int i = 0; i < 6; i++) {
            bus.send(0, 0, 1, true);
        }
        Due.refuses("no words, full", ARGUMENT, () -> bus.send(0, 0, 9, true));
        Due.refuses("no slave, full", INDEX, () -> bus.send(0, 4, 1, true));
    }

    // forgive: throws IndexOutOfBoundsException if there is no such master.
    private static void mastersOfForgive() {
        for (int masters = 2; masters <= 6; masters++) {
            TurnBus bus = Due.loaded("U" + masters + "02");
            Due.range("forgive(.., 0)", 0, masters - 1, INDEX, m -> bus.forgive(m, 0));
            Due.range("forgive(1, ..)", 0, masters - 1, INDEX, m -> bus.forgive(1, m));
        }
    }

    // Returns how many turns are forgiven (all that a owes to b); none are, if it owes none.
    private static void allThatIsOwed() {
        TurnBus bus = EdgeTermsTest.frame(16, "c9b008-b008-", 13, 14, 15);
        bus.pass(9);
        Due.is("forgive(1, 0)", bus.forgive(1, 0), 0);
        Due.is("forgive(0, 0)", bus.forgive(0, 0), 0);
        Due.is("debts", bus.about(5), 9);
        Due.is("forgive(0, 1)", bus.forgive(0, 1), 9);
        Due.is("debts", bus.about(5), 0);
        Due.is("forgive(0, 1) again", bus.forgive(0, 1), 0);
    }

    // undo: throws IllegalStateException if none is remembered.
    private static void nothingToTakeBack() {
        TurnBus bus = new TurnBus();
        Due.refuses("undo of a new one", STATE, bus::undo);
        bus.setCredit(9);
        Due.is("undo", bus.undo(), 0);
        Due.refuses("undo again", STATE, bus::undo);
        Due.is("credit", bus.about(4), 4);
    }

    // At most 14 states are remembered.
    private static void fourteenStates() {
        TurnBus bus = new TurnBus();
        for (int i = 1; i <= 14; i++) {
            bus.pass(i);
        }
        int ticks = 105;
        for (int i = 14; i >= 1; i--) {
            ticks -= i;
            Due.is("undo", bus.undo(), i - 1);
            Due.is("ticks", bus.about(2), ticks);
        }
        Due.refuses("a fifteenth undo", STATE, bus::undo);
    }

    // When one more is remembered, the oldest one is forgotten; however often that happens.
    private static void theOldestIsForgotten() {
        for (int actions = 15; actions <= 44; actions++) {
            TurnBus bus = new TurnBus();
            for (int i = 0; i < actions; i++) {
                bus.pass(1);
            }
            for (int i = 1; i <= 14; i++) {
                Due.is("undo", bus.undo(), 14 - i);
                Due.is("ticks", bus.about(2), actions - i);
            }
            Due.refuses("a fifteenth undo", STATE, bus::undo);
            Due.is("ticks", bus.about(2), actions - 14);
        }
    }

    // Undo is none.
    private static void undoIsNoAction() {
        TurnBus bus = new TurnBus();
        bus.setCredit(1);
        bus.setCredit(2);
        bus.setCredit(3);
        Due.is("undo", bus.undo(), 2);
        Due.is("undo", bus.undo(), 1);
        Due.is("credit", bus.about(4), 1);
        bus.setCredit(7);
        Due.is("the new one is taken back", bus.undo(), 1);
        Due.is("credit", bus.about(4), 1);
        Due.is("then the one before", bus.undo(), 0);
        Due.is("credit", bus.about(4), 4);
    }

    // Each call of one of them that does not throw an exception is an action, also if nothing becomes different.
    private static void actionsWithoutEffect() {
        TurnBus bus = new TurnBus();
        bus.give(0, 0);
        bus.setLatency(0, 2);
        bus.setCredit(4);
        bus.forgive(0, 1);
        bus.forgive(1, 1);
        for (int states = 4; states >= 0; states--) {
            Due.is("undo", bus.undo(), states);
        }
        bus.addMaster();
        bus.send(2, 0, 1, false);
        bus.pass(1);
        for (int states = 2; states >= 0; states--) {
            Due.is("undo of those with one", bus.undo(), states);
        }
        Due.refuses("undo", STATE, bus::undo);
    }

    // load and restore are not actions; nor are the calls outside the section 'actions'.
    private static void noOtherActions() {
        TurnBus bus = Due.loaded("U204b003+b102-");
        Due.refuses("undo behind load", STATE, bus::undo);
        Seen.of(bus);
        bus.owner(0);
        bus.order(0);
        bus.turnIn(9);
        bus.runScript(2, 1000310003L);
        bus.save(0);
        bus.save(1);
        Due.refuses("undo behind calls that are none", STATE, bus::undo);
        bus.setCredit(1);
        bus.restore(0);
        Due.refuses("undo behind restore", STATE, bus::undo);
    }

    // The state consists of everything but the text and the save slots.
    private static void textIsNoPartOfTheState() {
        TurnBus bus = new TurnBus();
        bus.pass(3);
        Due.type(bus, "U204c1");
        bus.save(1);
        bus.undo();
        Due.is("the text stays", bus.errorPosition(), NONE);
        Due.is("the save slot stays", bus.restore(1), 3);
        Due.is("the text stays", bus.clearText(), 6);
    }
}
