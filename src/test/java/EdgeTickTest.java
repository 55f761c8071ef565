/** The part 'A TICK' of the terms, and promise 17: one test for each sentence that names a boundary. */
public final class EdgeTickTest {
    private static final Class<IllegalArgumentException> ARGUMENT = IllegalArgumentException.class;
    private static final Class<IllegalStateException> STATE = IllegalStateException.class;
    private static final int NONE = TurnBus.NONE;

    public static void main(String[] args) {
        theOneItOwesTheMost();
        amongSeveralCreditorsTheLowest();
        creditorsWithNothingToDo();
        creditorWithAnAnswer();
        owesItOneLess();
        theOwnerItself();
        debtsOfLessThanTheCredit();
        debtsToAllCount();
        noCredit();
        theOneThatWaitedLongest();
        amongSeveralThatWaitedTheLowest();
        owesOneMore();
        idleTicks();
        answerBeforeWord();
        behindTheLastWord();
        waiting();
        longWaiting();
        moreThanFourTimesTheSlots();
        withoutSlots();
        eachSlotToTheGreatestCreditor();
        amongSeveralTheLowestInherits();
        allIsForgotten();
        allIsDropped();
        allMastersButTheBankruptOne();
        waitedStaysTillTheNextTick();
        nothingFromThenOn();
        bankruptcyAscending();
        slotsOfAnHeir();
        numberOfTicks();
        kindsOfTurns();
        ticksOfPass();
        Due.end();
    }

    /** Behind 5 ticks the master 0 has sent 5 of its 8 words, owes 1 two turns and 2 one. */
    private static TurnBus debtor() {
        TurnBus bus = Due.loaded("U303b008-");
        Due.same("turns", Due.turns(bus, 5), "00000");
        Due.is("owes(0, 1)", bus.owes(0, 1), 2);
        Due.is("owes(0, 2)", bus.owes(0, 2), 1);
        bus.setCredit(0);
        return bus;
    }

    // Of the masters to which o owes turns and that have something to do, the one to which it owes the most has the turn.
    private static void theOneItOwesTheMost() {
        TurnBus bus = debtor();
        bus.send(1, 0, 8, false);
        bus.send(2, 0, 8, false);
        Due.same("0 pays 1, 1, then 2 in its slot", Due.turns(bus, 8), "21121122");
        TurnBus higher = Due.loaded("U303o002o020b008-c9");
        Due.same("turns of 2, 1, its own, of 2", Due.turns(higher, 4), "0000");
        Due.is("owes(0, 1)", higher.owes(0, 1), 1);
        Due.is("owes(0, 2)", higher.owes(0, 2), 2);
        higher.send(1, 0, 8, false);
        higher.send(2, 0, 8, false);
        Due.same("0 pays 2, 1, then 2 in its slot", Due.turns(higher, 8), "12211212");
    }

    // Among several the lowest one.
    private static void amongSeveralCreditorsTheLowest() {
        TurnBus bus = Due.loaded("U303b008-");
        bus.pass(3);
        Due.is("owes(0, 1)", bus.owes(0, 1), 1);
        Due.is("owes(0, 2)", bus.owes(0, 2), 1);
        bus.send(2, 0, 3, false);
        bus.send(1, 0, 3, false);
        Due.same("1, then in its own slot, 2 in its own, then 2", Due.turns(bus, 4), "1122");
    }

    // And that have something to do: a creditor with nothing to do is passed over, and still owed.
    private static void creditorsWithNothingToDo() {
        TurnBus bus = debtor();
        bus.send(2, 0, 2, false);
        Due.same("2 in its own slot, then instead of 1", Due.turns(bus, 2), "22");
        Due.is("owes(0, 1)", bus.owes(0, 1), 2);
        Due.is("owes(0, 2)", bus.owes(0, 2), 0);
        TurnBus none = debtor();
        Due.same("none has, so the owner", Due.turns(none, 2), ".0");
        Due.is("debts", none.master(0, 1), 3);
    }

    // Something to do may be a ready answer alone.
    private static void creditorWithAnAnswer() {
        TurnBus ready = debtor();
        ready.setLatency(0, 2);
        ready.send(1, 0, 1, true);
        Due.same("paid back for a word and its answer", Due.turns(ready, 5), ".1..1");
        Due.is("owes(0, 1)", ready.owes(0, 1), 0);
        Due.is("taken", ready.master(1, 10), 1);
        TurnBus late = debtor();
        late.setLatency(0, 3);
        late.send(1, 0, 1, true);
        Due.same("not ready in the slot of 0", Due.turns(late, 6), ".1..01");
        Due.is("owes(0, 1)", late.owes(0, 1), 1);
    }

    // O owes it one less then: down to 0, and not below.
    private static void owesItOneLess() {
        TurnBus bus = debtor();
        bus.send(1, 0, 8, false);
        Due.same("turns", Due.turns(bus, 9), ".11.11.01");
        Due.is("owes(0, 1)", bus.owes(0, 1), 0);
        Due.is("paid back", bus.master(1, 8), 2);
    }

    // If there is no such master, and o has something to do, o has the turn.
    private static void theOwnerItself() {
        TurnBus bus = Due.loaded("U202c9b001-b108-");
        Due.same("0 before 1, which waits", Due.turns(bus, 1), "0");
        Due.is("own turns", bus.master(0, 7), 1);
        Due.is("debts", bus.about(5), 0);
    }

    // Have debts of less than the credit (0 to 9).
    private static void debtsOfLessThanTheCredit() {
        for (int credit = 0; credit <= 9; credit++) {
            TurnBus bus = EdgeTermsTest.frame(16, "b008-b008-c" + credit, 13, 14, 15);
            Due.is("turns with a credit of " + credit, bus.pass(13), credit);
            Due.is("debts with a credit of " + credit, bus.owes(0, 1), credit);
        }
        TurnBus first = new TurnBus();
        first.send(0, 0, 8, false);
        first.give(0, 1);
        first.give(2, 1);
        first.give(3, 0);
        Due.same("three on credit, its own, the fourth", Due.turns(first, 9), "00000..0.");
    }

    // The debts are those to all masters, not to the owner alone.
    private static void debtsToAllCount() {
        TurnBus bus = Due.loaded("U303c2b008-");
        Due.same("one of 1 and one of 2", Due.turns(bus, 7), "0000..0");
        Due.is("owes(0, 1)", bus.owes(0, 1), 1);
        Due.is("owes(0, 2)", bus.owes(0, 2), 1);
        bus.forgive(0, 1);
        Due.same("room for one again", Due.turns(bus, 2), "0.");
    }

    private static void noCredit() {
        TurnBus bus = Due.loaded("U202c0b008-o001o011");
        Due.is("no turns without credit", bus.pass(99), 0);
        Due.is("not bankrupt", bus.about(9), 0);
    }

    // The one that has waited longest.
    private static void theOneThatWaitedLongest() {
        TurnBus bus = Due.loaded("U308o002o012o022o032o042o052o060o071b108-c0");
        bus.pass(1);
        bus.send(0, 0, 8, false);
        bus.setCredit(9);
        Due.same("1 has waited a tick, then 0 has", Due.turns(bus, 3), "101");
    }

    // Among several the lowest one.
    private static void amongSeveralThatWaitedTheLowest() {
        TurnBus bus = Due.loaded("U308o002o012o022o032o042o052o060o071b108-b008-");
        Due.same("both have waited 0 ticks", Due.turns(bus, 4), "0101");
        TurnBus later = Due.loaded("U308o002o012o022o032o042o052o060o071b108-b008-c0");
        later.pass(3);
        later.setCredit(4);
        Due.is("0 has waited", later.master(0, 5), 3);
        Due.is("1 has waited", later.master(1, 5), 3);
        Due.same("both have waited 3 ticks", Due.turns(later, 2), "01");
    }

    // It owes o one more then.
    private static void owesOneMore() {
        TurnBus bus = Due.loaded("U202b003-");
        bus.pass(2);
        Due.is("owes(0, 1)", bus.owes(0, 1), 1);
        Due.is("owes(1, 0)", bus.owes(1, 0), 0);
        Due.is("on credit", bus.master(0, 9), 1);
        bus.pass(2);
        Due.is("owes(0, 1) still", bus.owes(0, 1), 1);
        TurnBus back = Due.loaded("U204o010b101-");
        Due.same("1 takes a turn of 0", Due.turns(back, 1), "1");
        back.send(0, 0, 3, false);
        Due.same("0 in its own two, then in the one that it is owed", Due.turns(back, 3), "000");
        Due.is("that is no credit", back.master(0, 9), 0);
        Due.is("owes(0, 1)", back.owes(0, 1), 0);
        Due.is("owes(1, 0)", back.owes(1, 0), 0);
    }

    // If there is no such one either, the tick is idle.
    private static void idleTicks() {
        TurnBus bus = new TurnBus();
        Due.is("ticks that are not idle", bus.pass(5), 0);
        Due.is("idle ones", bus.about(3), 5);
        Due.is("last turn", bus.about(8), NONE);
        bus.send(1, 0, 1, false);
        Due.is("one that is not", bus.pass(1), 1);
        Due.is("idle ones", bus.about(3), 5);
        Due.is("last turn", bus.about(8), 1);
        bus.pass(1);
        Due.is("idle ones", bus.about(3), 6);
        Due.is("last turn", bus.about(8), NONE);
    }

    // The master that has the turn takes the first answer for it that is ready, if there is one.
    // Otherwise the next word of its first burst is sent.
    private static void answerBeforeWord() {
        TurnBus bus = Due.loaded("U202o000o010b001+b008-l02");
        int[] words = {8, 7, 6, 6, 5};
        for (int t = 0; t < words.length; t++) {
            Due.is("turn", bus.pass(1), 1);
            Due.is("words left behind the tick " + t, bus.master(0, 4), words[t]);
            Due.is("taken behind the tick " + t, bus.master(0, 10), t < 3 ? 0 : 1);
        }
    }

    // Behind its last word this burst waits no more.
    private static void behindTheLastWord() {
        TurnBus bus = Due.loaded("U202o000o010b012-b023-");
        bus.pass(1);
        Due.is("words of the first", bus.burst(0, 0, 1), 1);
        Due.is("bursts", bus.master(0, 3), 2);
        bus.pass(1);
        Due.is("bursts", bus.master(0, 3), 1);
        Due.is("slave of the next", bus.burst(0, 0, 0), 2);
        Due.is("words of the next", bus.burst(0, 0, 1), 3);
        bus.pass(3);
        Due.is("no bursts", bus.master(0, 3), 0);
        Due.is("no words", bus.master(0, 4), 0);
        Due.is("no first one", bus.burst(0, 0, 1), NONE);
    }

    // Each master: if it had something to do in this tick, but not the turn, it has waited 1 tick longer;
    // otherwise it has waited 0 ticks.
    private static void waiting() {
        TurnBus bus = Due.loaded("U202c0b102-");
        int[] waited = {1, 0, 1, 0, 0};
        for (int t = 0; t < waited.length; t++) {
            bus.pass(1);
            Due.is("1 has waited behind the tick " + t, bus.master(1, 5), waited[t]);
            Due.is("0 has nothing to do", bus.master(0, 5), 0);
        }
        Due.is("the longest time", bus.master(1, 6), 1);
    }

    private static void longWaiting() {
        TurnBus bus = Due.loaded("U202c0b001-o001");
        for (int i = 1; i <= 9; i++) {
            bus.pass(99);
            Due.is("waited", bus.master(0, 5), 99 * i);
        }
        bus.give(0, 0);
        bus.give(1, 0);
        bus.pass(1);
        Due.is("waited", bus.master(0, 5), 0);
        Due.is("the longest time", bus.master(0, 6), 891);
    }

    // If its debts are more than 4 times the number of slots that it owns, it becomes bankrupt.
    private static void moreThanFourTimesTheSlots() {
        TurnBus one = EdgeTermsTest.frame(16, "b008-b008-c9", 15);
        one.pass(4);
        Due.is("4 debts, a slot", one.about(9), 0);
        one.pass(1);
        Due.is("5 debts, a slot", one.about(9), 1);
        TurnBus two = EdgeTermsTest.frame(16, "b008-b008-c9", 14, 15);
        two.pass(8);
        Due.is("8 debts, two slots", two.about(9), 0);
        two.pass(1);
        Due.is("9 debts, two slots", two.about(9), 1);
        TurnBus three = EdgeTermsTest.frame(16, "b008-b008-c9", 13, 14, 15);
        three.pass(13);
        Due.is("9 debts, three slots", three.about(9), 0);
        three.give(13, 1);
        Due.is("9 debts, two slots, no tick yet", three.about(9), 0);
        three.pass(1);
        Due.is("then it is bankrupt", three.about(9), 1);
    }

    // A master without slots: more than 0 debts are too many, 0 are not.
    private static void withoutSlots() {
        TurnBus bus = Due.loaded("U202o001b001-c0");
        bus.pass(20);
        Due.is("no debts", bus.about(9), 0);
        bus.setCredit(1);
        bus.pass(1);
        Due.is("a debt", bus.about(9), 1);
    }

    // Each of its slots goes to the master to which it owes the most.
    private static void eachSlotToTheGreatestCreditor() {
        TurnBus last = Due.loaded("U405o002o012o021o030o043b308-c9");
        Due.same("turns of 2, 2, 1, 0, its own, of 2", Due.turns(last, 6), "333333");
        Due.is("bankrupt", last.about(9), 8);
        Due.is("its slot", last.owner(4), 2);
        TurnBus two = Due.loaded("U316o001o011o021o031o042o052o062o072o082o092o102o112o122o132o140o150b008-b008-c9");
        Due.is("8 turns on credit", two.pass(8), 8);
        Due.is("not bankrupt", two.about(9), 0);
        Due.is("a ninth", two.pass(1), 1);
        Due.is("bankrupt", two.about(9), 1);
        for (int s = 0; s < 16; s++) {
            Due.is("owner of " + s, two.owner(s), s < 4 ? 1 : 2);
        }
    }

    // Among several the lowest one.
    private static void amongSeveralTheLowestInherits() {
        TurnBus first = Due.loaded("U404b308-c9");
        first.pass(6);
        Due.is("bankrupt", first.about(9), 8);
        Due.is("2 to 0, 2 to 1, 1 to 2", first.owner(3), 0);
        TurnBus second = Due.loaded("U404o001o012o020b308-c9");
        second.pass(6);
        Due.is("bankrupt", second.about(9), 8);
        Due.is("2 to 1, 2 to 2, 1 to 0", second.owner(3), 1);
        TurnBus even = Due.loaded("U316o001o011o021o031o042o052o062o072o081o091o102o112o120o130o140o150b008-b008-c8");
        even.pass(9);
        Due.is("owes(0, 1)", even.owes(0, 1), 4);
        Due.is("owes(0, 2)", even.owes(0, 2), 4);
        even.give(12, 2);
        even.give(13, 2);
        even.give(14, 2);
        even.pass(1);
        Due.is("bankrupt", even.about(9), 1);
        Due.is("4 to 1, 4 to 2", even.owner(15), 1);
        Due.is("what it gave away stays", even.owner(14), 2);
    }

    // All that it owes and all that is owed to it is forgotten.
    private static void allIsForgotten() {
        TurnBus bus = Due.loaded("U308o000o011o020o031o042o050o060o070b101-c9");
        Due.same("1 takes a turn of 0", Due.turns(bus, 1), "1");
        bus.send(2, 0, 1, false);
        Due.same("2 takes a turn of 1", Due.turns(bus, 1), "2");
        Due.is("owes(1, 0)", bus.owes(1, 0), 1);
        Due.is("owes(2, 1)", bus.owes(2, 1), 1);
        bus.give(1, 0);
        bus.give(3, 0);
        bus.pass(1);
        Due.is("1 is bankrupt", bus.about(9), 2);
        Due.is("owes(1, 0)", bus.owes(1, 0), 0);
        Due.is("owes(2, 1)", bus.owes(2, 1), 0);
        Due.is("all debts", bus.about(5), 0);
    }

    // Its bursts and the answers for it are dropped.
    private static void allIsDropped() {
        TurnBus bus = Due.loaded("U204b001+b008-b008-l09");
        Due.same("turns", Due.turns(bus, 2), "00");
        Due.is("answers", bus.about(7), 1);
        Due.is("bursts", bus.about(6), 2);
        bus.give(0, 1);
        bus.give(2, 1);
        bus.pass(1);
        Due.is("bankrupt", bus.about(9), 1);
        Due.is("answers", bus.about(7), 0);
        Due.is("bursts", bus.about(6), 0);
        Due.is("words", bus.master(0, 4), 0);
        Due.is("done", bus.doneIn(0), 0);
        Due.is("nothing comes later", bus.pass(30), 0);
        Due.is("none is taken", bus.master(0, 10), 0);
    }

    // What is owed to it by the first and the last master, and its first and last slot, are gone too.
    private static void allMastersButTheBankruptOne() {
        TurnBus bus = Due.loaded("U616o001o151o032o042o052o062o072o092o102o115b001-b501-c9");
        Due.same("0 and 5 take a turn of 1", Due.turns(bus, 2), "05");
        bus.send(1, 0, 8, false);
        bus.send(1, 0, 1, false);
        Due.same("1 takes nine turns of 2", Due.turns(bus, 9), "111111111");
        Due.is("owes(1, 2)", bus.owes(1, 2), 9);
        Due.is("owed to 1", bus.master(1, 2), 2);
        Due.is("owed to 2", bus.master(2, 2), 9);
        bus.give(1, 3);
        bus.give(13, 3);
        bus.pass(1);
        Due.is("bankrupt", bus.about(9), 2);
        Due.is("owner of the first slot", bus.owner(0), 2);
        Due.is("owner of the last slot", bus.owner(15), 2);
        Due.is("owes(0, 1)", bus.owes(0, 1), 0);
        Due.is("owes(5, 1)", bus.owes(5, 1), 0);
        Due.is("owed to 1", bus.master(1, 2), 0);
        Due.is("owed to 2", bus.master(2, 2), 0);
        Due.is("all debts", bus.about(5), 0);
    }

    // For how long it has waited stays as 3 left it till the next tick.
    private static void waitedStaysTillTheNextTick() {
        TurnBus bus = Due.loaded("U204b008-c0o000");
        bus.setCredit(1);
        Due.same("turns", Due.turns(bus, 2), "00");
        bus.setCredit(0);
        bus.give(2, 1);
        bus.pass(2);
        Due.is("waited", bus.master(0, 5), 2);
        bus.give(0, 1);
        bus.pass(1);
        Due.is("bankrupt", bus.about(9), 1);
        Due.is("waited", bus.master(0, 5), 3);
        Due.is("the longest time", bus.master(0, 6), 3);
        bus.pass(1);
        Due.is("waited behind the next tick", bus.master(0, 5), 0);
        Due.is("the longest time stays", bus.master(0, 6), 3);
    }

    // It has nothing to do from then on, and gets no bursts.
    private static void nothingFromThenOn() {
        TurnBus bus = Due.loaded("U302b201+");
        Due.same("turns", Due.turns(bus, 1), "2");
        Due.is("bankrupt", bus.about(9), 4);
        Due.refuses("send", STATE, () -> bus.send(2, 0, 1, false));
        Due.is("no turns", bus.pass(50), 0);
        Due.is("still bankrupt", bus.about(9), 4);
    }

    // Each master, ascending: what one forgets or inherits counts for those behind it.
    private static void bankruptcyAscending() {
        TurnBus creditorFirst = Due.loaded("U308o000o011o020o031o042o050o060o070b101-c9");
        creditorFirst.pass(1);
        creditorFirst.send(2, 0, 1, false);
        creditorFirst.pass(1);
        for (int s = 1; s < 5; s++) {
            creditorFirst.give(s, 0);
        }
        creditorFirst.pass(1);
        Due.is("1 is ruined, then 2 owes nothing", creditorFirst.about(9), 2);
        TurnBus debtorFirst = Due.loaded("U308o000o012o020o031o042o050o060o070b201-c9");
        debtorFirst.pass(1);
        debtorFirst.send(1, 0, 1, false);
        debtorFirst.pass(1);
        Due.is("owes(2, 0)", debtorFirst.owes(2, 0), 1);
        Due.is("owes(1, 2)", debtorFirst.owes(1, 2), 1);
        for (int s = 1; s < 5; s++) {
            debtorFirst.give(s, 0);
        }
        debtorFirst.pass(1);
        Due.is("1 is ruined, and so is 2", debtorFirst.about(9), 6);
    }

    // 1 owes 2 five turns and 2 owes 0 five; both have a slot: that of 1 goes to 2, before 2 is looked at.
    private static void slotsOfAnHeir() {
        TurnBus bus = Due.loaded("U316o002o012o022o032o042o050o060o070o080o090o101o111o122o132o140o150b105-c9");
        Due.same("turns", Due.turns(bus, 5), "11111");
        bus.send(2, 0, 5, false);
        Due.same("turns", Due.turns(bus, 5), "22222");
        Due.is("owes(1, 2)", bus.owes(1, 2), 5);
        Due.is("owes(2, 0)", bus.owes(2, 0), 5);
        int[] given = {0, 1, 2, 3, 4, 10, 12};
        for (int s : given) {
            bus.give(s, 0);
        }
        bus.pass(1);
        Due.is("1 alone is bankrupt", bus.about(9), 2);
        Due.is("its slot", bus.owner(11), 2);
        Due.is("2 still owes", bus.owes(2, 0), 5);
    }

    // The number of ticks grows by 1.
    private static void numberOfTicks() {
        TurnBus bus = new TurnBus();
        bus.pass(1);
        Due.is("behind an idle tick", bus.about(2), 1);
        bus.send(0, 0, 1, false);
        bus.pass(1);
        Due.is("behind another tick", bus.about(2), 2);
    }

    // Each tick in which a master has the turn is its own one, one that is paid back to it, or one that it has on credit.
    private static void kindsOfTurns() {
        TurnBus bus = debtor();
        bus.send(1, 0, 5, false);
        bus.pass(20);
        for (int m = 0; m < 3; m++) {
            int[][] want = {{5, 0, 3}, {3, 2, 0}, {0, 0, 0}};
            for (int kind = 0; kind < 3; kind++) {
                Due.is("master(" + m + ", " + (7 + kind) + ")", bus.master(m, 7 + kind), want[m][kind]);
            }
        }
        Due.is("all ticks", bus.about(3) + 13, bus.about(2));
    }

    // pass: ticks 1 to 99; returns how many of them are not idle.
    private static void ticksOfPass() {
        TurnBus bus = Due.loaded("U202o000o010c0b008-b008-");
        Due.range("pass", 1, 99, ARGUMENT, ticks -> {
            int got = bus.pass(ticks);
            bus.undo();
            Due.is("pass(" + ticks + ")", got, Math.min(ticks, 16));
            return got;
        });
        Due.is("no ticks", bus.about(2), 0);
    }
}
