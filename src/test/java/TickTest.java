/** Promise 17: pass, and all that happens when a tick goes by. */
public final class TickTest {
    public static void main(String[] args) {
        ownAndIdleTurns();
        creditTurns();
        creditGoesToWhoWaitedLongest();
        paidBackTurns();
        paidBackToTheGreatestCreditor();
        answers();
        answersComeFirst();
        latencyIsTakenWhenAsked();
        waiting();
        bankruptcy();
        bankruptcyInOrder();
        bankruptcyWithoutSlots();
        bankruptcyOfTheFirst();
        ticksOfPass();
        Due.end();
    }

    private static void ownAndIdleTurns() {
        TurnBus bus = Due.loaded("U202c0b002-b101-");
        Due.same("turns", Due.turns(bus, 5), "010..");
        Due.is("own turns of 0", bus.master(0, 7), 2);
        Due.is("own turns of 1", bus.master(1, 7), 1);
        Due.is("idle", bus.about(3), 2);
        Due.is("ticks", bus.about(2), 5);
    }

    private static void creditTurns() {
        TurnBus bus = Due.loaded("U404b308-");
        Due.same("turns", Due.turns(bus, 17), "33333..3...3...3.");
        int[] owed = {2, 1, 1, 0};
        for (int b = 0; b < 4; b++) {
            Due.is("owes(3, " + b + ")", bus.owes(3, b), owed[b]);
        }
        Due.is("turns on credit", bus.master(3, 9), 4);
        Due.is("own turns", bus.master(3, 7), 4);
        Due.is("debts", bus.about(5), 4);
        TurnBus none = Due.loaded("U202c0b001-o001");
        Due.same("turns without credit", Due.turns(none, 4), "....");
        TurnBus one = Due.loaded("U202c1b005-");
        Due.same("turns with a credit of 1", Due.turns(one, 6), "000.0.");
    }

    // The slots 0, 2 and 3 are of the master 3, which has nothing to do.
    private static void creditGoesToWhoWaitedLongest() {
        TurnBus bus = Due.loaded("U405o003o023o033o040o011b008-b108-b208-");
        Due.same("the lowest one of several", Due.turns(bus, 1), "0");
        Due.same("its own turn", Due.turns(bus, 1), "1");
        Due.is("2 has waited", bus.master(2, 5), 2);
        Due.is("0 has waited", bus.master(0, 5), 1);
        Due.same("the one that waited longest", Due.turns(bus, 1), "2");
        Due.is("2 has no slot", bus.about(9), 4);
        Due.same("then 0 before 1", Due.turns(bus, 1), "0");
        Due.is("owes(0, 3)", bus.owes(0, 3), 2);
    }

    private static void paidBackTurns() {
        TurnBus bus = Due.loaded("U202b004-");
        Due.same("0 takes a turn of 1", Due.turns(bus, 2), "00");
        bus.send(1, 0, 3, false);
        Due.same("and pays it back", Due.turns(bus, 1), "1");
        Due.is("owes(0, 1)", bus.owes(0, 1), 0);
        Due.is("paid back to 1", bus.master(1, 8), 1);
        Due.is("own turns of 1", bus.master(1, 7), 0);
        Due.same("then each has its own", Due.turns(bus, 5), "1010.");
    }

    // The master 3 takes 2 turns of 1 and one of each of 0 and 2, with the slot 3 its own.
    private static void paidBackToTheGreatestCreditor() {
        TurnBus bus = Due.loaded("U405o041b308-");
        Due.same("turns on credit", Due.turns(bus, 5), "33333");
        Due.is("owes(3, 1)", bus.owes(3, 1), 2);
        bus.send(0, 0, 8, false);
        bus.send(1, 0, 8, false);
        bus.send(2, 0, 8, false);
        Due.same("their own turns", Due.turns(bus, 3), "012");
        Due.same("the greatest", Due.turns(bus, 1), "1");
        Due.same("their own turns", Due.turns(bus, 4), "1012");
        Due.same("the lowest of several", Due.turns(bus, 1), "0");
        Due.is("owes(3, 0)", bus.owes(3, 0), 0);
        Due.is("owes(3, 1)", bus.owes(3, 1), 1);
        bus.pass(5);
        Due.is("last turn", bus.about(8), 1);
    }

    private static void answers() {
        TurnBus bus = Due.loaded("U202c9b001+l03");
        Due.same("asks in the tick 0, ready from 4 on", Due.turns(bus, 6), "0...0.");
        Due.is("taken", bus.master(0, 10), 1);
        Due.is("answers", bus.about(7), 0);
        TurnBus quick = Due.loaded("U202b001+l00");
        Due.same("latency 0", Due.turns(quick, 3), "00.");
        TurnBus slow = Due.loaded("U202b001+l09");
        Due.same("latency 9", Due.turns(slow, 12), "0.........0.");
        TurnBus never = Due.loaded("U202b001-");
        never.pass(9);
        Due.is("no answer", never.master(0, 10), 0);
        TurnBus many = Due.loaded("U202o000o010b001+b001+b001+b001+b001+b001+l09");
        many.pass(6);
        for (int i = 0; i < 6; i++) {
            many.send(0, 0, 1, true);
        }
        Due.same("ten answers on their way", Due.turns(many, 4), "0000");
        Due.is("answers", many.about(7), 10);
        Due.same("then they come first", Due.turns(many, 10), "0000000000");
        Due.is("taken", many.master(0, 10), 10);
        Due.is("bursts", many.about(6), 2);
        Due.same("the last two", Due.turns(many, 13), "00........00.");
    }

    private static void answersComeFirst() {
        TurnBus bus = Due.loaded("U202o000o010b001+b013-l00");
        bus.pass(1);
        Due.is("words before", bus.master(0, 4), 3);
        bus.pass(1);
        Due.is("words behind the answer", bus.master(0, 4), 3);
        Due.is("answers taken", bus.master(0, 10), 1);
        bus.pass(1);
        Due.is("words behind a word", bus.master(0, 4), 2);
        // The slave 1 answers sooner than the slave 0 that was asked first.
        TurnBus two = Due.loaded("U202o000o010b001+b011+l05l10c0");
        Due.same("turns", Due.turns(two, 8), "000...0.");
        TurnBus other = Due.loaded("U202o000o010c0b001+b008-l02");
        other.pass(2);
        Due.is("not ready yet", other.master(0, 4), 7);
        other.pass(1);
        Due.is("not ready in the tick 2", other.master(0, 4), 6);
        other.pass(1);
        Due.is("ready in the tick 3", other.master(0, 4), 6);
    }

    private static void latencyIsTakenWhenAsked() {
        TurnBus bus = Due.loaded("U202c0b002+l01");
        bus.pass(1);
        bus.setLatency(0, 4);
        bus.pass(2);
        bus.setLatency(0, 9);
        Due.is("asked in the tick 2, ready from 7, taken in 8", bus.doneIn(0), 6);
    }

    private static void waiting() {
        TurnBus bus = Due.loaded("U202c0b002-b101-");
        bus.give(0, 1);
        Due.same("turns", Due.turns(bus, 1), "1");
        Due.is("waited", bus.master(0, 5), 1);
        bus.pass(6);
        Due.is("waited", bus.master(0, 5), 7);
        Due.is("longest", bus.master(0, 6), 7);
        Due.is("1 has nothing to do", bus.master(1, 5), 0);
        bus.give(1, 0);
        Due.same("turns", Due.turns(bus, 1), "0");
        Due.is("waited behind its turn", bus.master(0, 5), 0);
        Due.is("longest behind its turn", bus.master(0, 6), 7);
        bus.pass(1);
        Due.is("waited again", bus.master(0, 5), 1);
        Due.is("longest still", bus.master(0, 6), 7);
        // An answer that is not ready is nothing to do; one that is ready is.
        TurnBus answer = Due.loaded("U202c0b001+l02");
        answer.pass(3);
        Due.is("not ready", answer.master(0, 5), 0);
        answer.pass(1);
        Due.is("ready", answer.master(0, 5), 1);
    }

    private static void bankruptcy() {
        TurnBus bus = Due.loaded("U404b308-c9");
        Due.same("turns", Due.turns(bus, 5), "33333");
        Due.is("4 debts are not too many for a slot", bus.about(9), 0);
        bus.send(3, 0, 1, true);
        Due.same("the fifth", Due.turns(bus, 1), "3");
        Due.is("bankrupt", bus.about(9), 8);
        Due.is("its slot goes to the lowest of the greatest creditors", bus.owner(3), 0);
        Due.is("slots", bus.master(3, 0), 0);
        Due.is("debts", bus.about(5), 0);
        Due.is("bursts", bus.master(3, 3), 0);
        Due.is("turns on credit stay", bus.master(3, 9), 5);
        Due.is("own turns stay", bus.master(3, 7), 1);
        Due.refuses("send", IllegalStateException.class, () -> bus.send(3, 0, 1, false));
        Due.same("nothing to do", Due.turns(bus, 4), "....");
        TurnBus heir = Due.loaded("U406o000o011o021o032o043o050b308-c9");
        Due.same("turns", Due.turns(heir, 5), "33333");
        Due.same("turns", Due.turns(heir, 1), "3");
        Due.is("bankrupt", heir.about(9), 8);
        Due.is("the lowest of two with 2", heir.owner(4), 0);
        TurnBus other = Due.loaded("U407o000o011o021o032o043o050o061b308-c9");
        other.pass(5);
        other.forgive(3, 0);
        other.give(4, 0);
        Due.same("turns", Due.turns(other, 1), "3");
        Due.is("bankrupt", other.about(9), 8);
        Due.is("a slot that it gave away is not its own", other.owner(4), 0);
    }

    // 1 owes to 0, 2 owes to 1, and both have no slots: when 1 is ruined, 2 owes no more.
    private static void bankruptcyInOrder() {
        TurnBus bus = Due.loaded("U306c9b101-");
        Due.same("turns", Due.turns(bus, 1), "1");
        bus.send(2, 0, 1, false);
        Due.same("turns", Due.turns(bus, 1), "2");
        for (int s = 0; s < 6; s++) {
            bus.give(s, 0);
        }
        Due.is("owes(1, 0)", bus.owes(1, 0), 1);
        Due.is("owes(2, 1)", bus.owes(2, 1), 1);
        Due.same("turns", Due.turns(bus, 1), ".");
        Due.is("bankrupt", bus.about(9), 2);
        Due.is("debts", bus.about(5), 0);
        TurnBus both = Due.loaded("U306c9b101-");
        both.pass(3);
        both.send(2, 0, 1, false);
        both.pass(1);
        for (int s = 0; s < 6; s++) {
            both.give(s, 0);
        }
        both.pass(1);
        Due.is("both bankrupt in one tick", both.about(9), 6);
    }

    private static void bankruptcyWithoutSlots() {
        TurnBus bus = Due.loaded("U302b202+b208-o001o011");
        Due.same("turns", Due.turns(bus, 1), "2");
        Due.is("bankrupt", bus.about(9), 4);
        Due.is("bursts", bus.about(6), 0);
        TurnBus heir = Due.loaded("U305o000o011o021o032o042b205-c9");
        Due.same("turns", Due.turns(heir, 5), "22222");
        Due.is("owes(2, 1)", heir.owes(2, 1), 2);
        heir.give(3, 0);
        heir.send(2, 0, 8, false);
        heir.pass(2);
        Due.is("owes(2, 1) and a fifth to 0", heir.about(9), 4);
        Due.is("the greatest creditor is its heir", heir.owner(4), 1);
        // Without its slots, a master is checked in the next tick, also if this is idle.
        TurnBus debtor = Due.loaded("U202b001+b001-l02");
        Due.same("turns", Due.turns(debtor, 2), "00");
        debtor.send(0, 0, 3, false);
        debtor.setCredit(0);
        debtor.give(0, 1);
        Due.is("not yet", debtor.about(9), 0);
        Due.same("idle", Due.turns(debtor, 1), ".");
        Due.is("then", debtor.about(9), 1);
        Due.is("its answers are dropped", debtor.about(7), 0);
        Due.is("how long it has waited stays", debtor.master(0, 5), 1);
        debtor.pass(1);
        Due.is("till the next tick", debtor.master(0, 5), 0);
        Due.is("the longest time stays", debtor.master(0, 6), 1);
    }

    // Six masters: 0 owns the slots 0 and 5, owes to all others, and 5 owes to it.
    private static void bankruptcyOfTheFirst() {
        TurnBus bus = Due.loaded("U606c9b008-");
        Due.same("turns", Due.turns(bus, 6), "000000");
        Due.is("five debts ruin one slot", bus.about(9), 1);
        Due.is("slot 0 to the lowest", bus.owner(0), 1);
        TurnBus owed = Due.loaded("U606c9b508-o003");
        Due.same("turns", Due.turns(owed, 4), "5555");
        owed.forgive(5, 3);
        owed.send(0, 0, 2, false);
        Due.same("0 takes a turn", Due.turns(owed, 1), "0");
        Due.is("without a slot", owed.about(9), 1);
        Due.is("owes(5, 3)", owed.owes(5, 3), 0);
        TurnBus both = Due.loaded("U606c9b008-b501-");
        both.give(0, 5);
        both.give(5, 0);
        Due.same("the owner of 0 first", Due.turns(both, 1), "5");
        Due.same("then on credit", Due.turns(both, 4), "0000");
        both.give(5, 1);
        Due.same("and once more", Due.turns(both, 1), "0");
        Due.is("0 is bankrupt", both.about(9), 1);
        Due.is("nobody owes", both.about(5), 0);
        TurnBus creditor = Due.loaded("U606c9b501-");
        creditor.pass(1);
        Due.is("owes(5, 0)", creditor.owes(5, 0), 1);
        creditor.send(0, 0, 1, false);
        creditor.give(0, 1);
        creditor.pass(1);
        Due.is("0 owes without a slot", creditor.about(9), 1);
        Due.is("5 owes it no more", creditor.owes(5, 0), 0);
        TurnBus debtor = Due.loaded("U606c9b001-b508-");
        debtor.give(0, 5);
        debtor.give(5, 0);
        debtor.pass(1);
        debtor.pass(1);
        Due.is("owes(0, 1)", debtor.owes(0, 1), 1);
        debtor.send(1, 0, 1, false);
        debtor.give(1, 2);
        debtor.pass(2);
        Due.is("1 is bankrupt", debtor.about(9), 2);
        Due.is("0 owes 1 no more", debtor.owes(0, 1), 0);
    }

    private static void ticksOfPass() {
        TurnBus bus = Due.loaded("U202c0b008-");
        Due.is("pass(1)", bus.pass(1), 1);
        Due.is("pass(99)", bus.pass(99), 7);
        Due.is("pass(3)", bus.pass(3), 0);
        Due.is("ticks", bus.about(2), 103);
        for (int ticks : new int[] {0, -1, 100, Integer.MAX_VALUE, Integer.MIN_VALUE}) {
            Due.refuses("pass(" + ticks + ")", IllegalArgumentException.class, () -> bus.pass(ticks));
        }
        Due.is("ticks", bus.about(2), 103);
        Due.is("a refused call is no action", bus.undo(), 2);
        Due.is("ticks", bus.about(2), 100);
    }
}
