/** The sentences of "Changes" that name a bound, a test each. */
final class ChangeEdgesTest {
    public static void main(String[] args) {
        eachMethodOfTheSectionIsAChange();
        sameValuesAreAChange();
        otherCallsAreNoChanges();
        errorsAreNoChanges();
        historyHasEightStates();
        oldestIsDropped();
        historyGoesRoundAndRound();
        stateBeforeIsRecorded();
        undoRemovesTheLatest();
        undoOfNothing();
        textIsInNoState();
        Check.end("ChangeEdgesTest");
    }

    /** A bank without a history where each of the changes below is possible. */
    private static LimitBank readyBank() {
        LimitBank bank = Check.bank(50, 100, 2);
        Check.setLimits(bank, 0, 40);
        Check.type(bank, "mem 3");
        bank.demand(0);
        bank.demand(0);
        bank.grant();
        bank.borrow(0, 0, 5);
        for (int i = 0; i < 8; i++) {
            bank.pass(1);
        }
        return bank;
    }

    private static final Check.Call[] CHANGES = {
        b -> b.setResource(0, false, 51), b -> b.setResource(0, true, 7), b -> b.setRest(9),
        b -> b.addTenant(3), b -> b.setWeight(0, 9), b -> b.setLimit(0, 3, 1), b -> b.demand(0),
        b -> b.withdraw(0), b -> b.grant(), b -> b.grantAll(), b -> b.release(0),
        b -> b.exchange(0, 2, 3, 1), b -> b.borrow(0, 1, 1), b -> b.repay(0, 0, 1),
        b -> b.pass(1), b -> b.pass(999)};

    /** "Changes are the calls of the methods in the section "changes" that return no error" */
    private static void eachMethodOfTheSectionIsAChange() {
        for (int i = 0; i < CHANGES.length; i++) {
            LimitBank bank = readyBank();
            bank.undo();
            bank.undo();
            LimitBank twin = readyBank();
            twin.undo();
            twin.undo();
            Check.due("count(8)", bank.count(8), 6);
            Check.due("change " + i, CHANGES[i].on(bank) >= 0 ? 1 : 0, 1);
            Check.due("count(8) after change " + i, bank.count(8), 7);
            Check.due("undo() of change " + i, bank.undo(), 6);
            Check.same("undo() of change " + i, bank, twin);
        }
    }

    /** "also if nothing becomes different" */
    private static void sameValuesAreAChange() {
        LimitBank bank = new LimitBank();
        bank.addTenant(1);
        Check.Call[] calls = {b -> b.setResource(0, false, 0), b -> b.setResource(3, true, 0),
            b -> b.setRest(3), b -> b.setWeight(0, 1), b -> b.setLimit(0, 2, 0)};
        int[] answers = {0, 0, 3, 1, 0};
        for (int i = 0; i < calls.length; i++) {
            Check.due("same value " + i, calls[i].on(bank), answers[i]);
            Check.due("count(8) after same value " + i, bank.count(8), i + 2);
        }
        for (int left = 5; left >= 1; left--) {
            Check.due("undo()", bank.undo(), left);
            Check.due("count(1)", bank.count(1), 1);
        }
        Check.due("undo() of the tenant", bank.undo(), 0);
        Check.due("count(1)", bank.count(1), 0);
    }

    /** The sentence names one section: the calls of the others record nothing. */
    private static void otherCallsAreNoChanges() {
        LimitBank bank = readyBank();
        bank.type('x');
        bank.fault();
        bank.clearText();
        bank.resource(0, 0);
        bank.tenant(0, 1);
        bank.account(0, 0, 0);
        bank.granted(0, 0);
        bank.demanded(0, 0);
        bank.plan(-1);
        bank.plan(0);
        bank.worth(0, 0);
        bank.ruin(0);
        bank.count(0);
        bank.digest();
        Check.type(bank, "mem 3");
        Check.same("calls that are no changes", bank, readyBank());
    }

    /** "that return no error": refused calls do not push out the oldest state. */
    private static void errorsAreNoChanges() {
        LimitBank bank = readyBank();
        Check.due("setRest(0)", bank.setRest(0), LimitBank.BAD);
        Check.due("setResource", bank.setResource(1, false, 2), LimitBank.STATE);
        Check.due("pass(0)", bank.pass(0), LimitBank.BAD);
        Check.due("borrow", bank.borrow(0, 1, 101), LimitBank.STATE);
        Check.due("exchange", bank.exchange(0, 2, 2, 1), LimitBank.BAD);
        Check.due("release", bank.release(1), LimitBank.BAD);
        Check.same("refused calls", bank, readyBank());
    }

    /** "A history of at most 8 states is kept" */
    private static void historyHasEightStates() {
        LimitBank bank = new LimitBank();
        for (int i = 1; i <= 20; i++) {
            Check.due("count(8)", bank.count(8), Math.min(i - 1, 8));
            Check.due("setResource", bank.setResource(0, true, i), i - 1);
        }
        for (int left = 7; left >= 0; left--) {
            Check.due("undo()", bank.undo(), left);
            Check.due("count(8)", bank.count(8), left);
        }
        Check.due("undo() of the ninth", bank.undo(), LimitBank.STATE);
    }

    /** "when one more is recorded, the oldest one is dropped": with 7, 8, 9 and 10 changes. */
    private static void oldestIsDropped() {
        for (int changes = 7; changes <= 10; changes++) {
            LimitBank bank = new LimitBank();
            for (int i = 1; i <= changes; i++) {
                bank.setResource(0, true, i);
            }
            for (int i = changes - 1; i >= Math.max(0, changes - 8); i--) {
                bank.undo();
                Check.due("the fund of " + changes + " changes", bank.resource(0, 1), i);
            }
            Check.due("undo() of more", bank.undo(), LimitBank.STATE);
            Check.due("the oldest fund", bank.resource(0, 1), Math.max(0, changes - 8));
        }
    }

    /** The same sentence, where changes and undo() take turns. */
    private static void historyGoesRoundAndRound() {
        LimitBank bank = new LimitBank();
        for (int round = 0; round < 5; round++) {
            int first = 100 * round;
            for (int i = 1; i <= 11; i++) {
                bank.setResource(0, true, first + i);
            }
            for (int i = 10; i >= 6; i--) {
                Check.due("undo()", bank.undo(), i - 3);
                Check.due("the fund", bank.resource(0, 1), first + i);
            }
            bank.setResource(0, true, first + 50);
            Check.due("count(8)", bank.count(8), 4);
            for (int i = 6; i >= 3; i--) {
                Check.due("undo()", bank.undo(), i - 3);
                Check.due("the fund", bank.resource(0, 1), first + i);
            }
            Check.due("undo() of more", bank.undo(), LimitBank.STATE);
        }
    }

    /** "each change records the state before it": a later change does not touch the record. */
    private static void stateBeforeIsRecorded() {
        LimitBank bank = new LimitBank();
        Check.type(bank, "cpu 7");
        Check.Call[] calls = {b -> b.setResource(0, false, 50), b -> b.setResource(3, true, 100),
            b -> b.addTenant(1), b -> b.setLimit(0, 0, 40), b -> b.demand(0), b -> b.grant(),
            b -> b.borrow(0, 3, 10), b -> b.pass(40)};
        long[] digests = new long[calls.length];
        for (int i = 0; i < calls.length; i++) {
            digests[i] = bank.digest();
            Check.due("change " + i, calls[i].on(bank) >= 0 ? 1 : 0, 1);
        }
        Check.due("a bankruptcy", bank.count(7), 1);
        for (int i = calls.length - 1; i >= 0; i--) {
            Check.due("undo() of change " + i, bank.undo(), i);
            Check.due("digest() before change " + i, bank.digest(), digests[i]);
        }
    }

    /** "undo() removes the latest one and restores it.": it is no change itself. */
    private static void undoRemovesTheLatest() {
        LimitBank bank = new LimitBank();
        bank.setRest(10);
        bank.setRest(20);
        bank.setRest(30);
        Check.due("undo()", bank.undo(), 2);
        Check.due("the rest", bank.count(6), 20);
        Check.due("undo()", bank.undo(), 1);
        Check.due("the rest", bank.count(6), 10);
        bank.setRest(40);
        Check.due("undo()", bank.undo(), 1);
        Check.due("the rest", bank.count(6), 10);
        Check.due("undo()", bank.undo(), 0);
        Check.due("the rest", bank.count(6), 3);
    }

    /** Promise 19: "STATE if there is none." */
    private static void undoOfNothing() {
        LimitBank bank = new LimitBank();
        Check.due("undo() of a new bank", bank.undo(), LimitBank.STATE);
        Check.due("setRest(0)", bank.setRest(0), LimitBank.BAD);
        Check.due("undo() after an error", bank.undo(), LimitBank.STATE);
        bank.type('c');
        Check.due("undo() after type()", bank.undo(), LimitBank.STATE);
        bank.setRest(8);
        Check.due("undo() of the only one", bank.undo(), 0);
        Check.due("undo() of one more", bank.undo(), LimitBank.STATE);
        Check.due("count(6)", bank.count(6), 3);
        Check.due("count(9)", bank.count(9), 1);
    }

    /** "The text does not belong to a state.": neither what was typed nor what was cleared. */
    private static void textIsInNoState() {
        LimitBank bank = new LimitBank();
        bank.addTenant(1);
        Check.demand(bank, 0, "cpu 1", 1);
        bank.type('2');
        bank.undo();
        Check.due("the length", bank.count(9), 6);
        Check.due("demand(0) of cpu 12", bank.demand(0), 1);
        Check.due("demanded(0, 0)", bank.demanded(0, 0), 12);
        bank.clearText();
        bank.undo();
        Check.due("the length of none", bank.count(9), 0);
        bank.undo();
        Check.due("count(1)", bank.count(1), 0);
        Check.due("the length of none again", bank.count(9), 0);
    }
}
