import java.util.function.Supplier;

/**
 * The sentences of "Errors": each error of each call, alone and where several apply. After each of
 * the refused calls the bank and its whole history are compared with those of a bank without it.
 */
final class ErrorEdgesTest {
    private static final int BAD = LimitBank.BAD, STATE = LimitBank.STATE, FULL = LimitBank.FULL;
    private static final int NONE = LimitBank.NONE;

    public static void main(String[] args) {
        badBeforeState();
        badBeforeStateOfTexts();
        badBeforeFull();
        stateBeforeFullOfDemands();
        stateBeforeFullOfGrants();
        stateBeforeFullOfLimits();
        badBeforeNone();
        noneIsNoError();
        stateAlone();
        fullAlone();
        pointsAreAboveBad();
        Check.end("ErrorEdgesTest");
    }

    /** Tenant 0 uses 5 of 20 cpu and has borrowed 4 of 24 mem; tenant 1 is bankrupt. */
    private static LimitBank busyBank() {
        LimitBank bank = Check.bank(90, 60, 1, 1);
        bank.setResource(3, false, 0);
        bank.setRest(99);
        bank.borrow(1, 3, 10);
        Check.due("pass(1)", bank.pass(1), 1);
        Check.setLimits(bank, 0, 20);
        Check.setLimits(bank, 1, 20);
        Check.use(bank, 0, "cpu 5");
        Check.due("borrow", bank.borrow(0, 1, 4), 4);
        bank.clearText();
        return bank;
    }

    private static LimitBank typed(LimitBank bank, String text) {
        Check.type(bank, text);
        return bank;
    }

    private static LimitBank sixTenants() {
        return Check.bank(9, 9, 1, 1, 1, 1, 1, 1);
    }

    /** The queue is full; tenant 1 is bankrupt. */
    private static LimitBank fullQueue(String text) {
        LimitBank bank = typed(busyBank(), "mem 99");
        for (int i = 1; i <= 24; i++) {
            bank.demand(0);
        }
        return typed(bank, text);
    }

    private static LimitBank fullGrants(String next) {
        LimitBank bank = Check.bank(99, 9, 1);
        Check.setLimits(bank, 0, 99);
        Check.type(bank, "net 1");
        for (int i = 0; i < 40; i++) {
            bank.demand(0);
            Check.due("grant()", bank.grant(), 0);
        }
        Check.type(bank, next);
        bank.demand(0);
        return bank;
    }

    /** A limit of 9999 mem, and 20 of cpu and net, of which some are used or borrowed. */
    private static LimitBank fullLimit(int memInFund) {
        LimitBank bank = Check.bank(90, 60, 1);
        Check.setLimits(bank, 0, 20);
        bank.setLimit(0, 1, 9999);
        Check.use(bank, 0, "cpu 5");
        bank.borrow(0, 2, 8);
        bank.setLimit(0, 2, 20);
        bank.setResource(1, true, memInFund);
        return bank;
    }

    private static LimitBank fullLimitOfABankrupt() {
        LimitBank bank = busyBank();
        bank.setLimit(1, 1, 9999);
        return bank;
    }

    private static LimitBank lastTime() {
        LimitBank bank = Check.bank(9, 9, 1);
        for (int i = 0; i < 10; i++) {
            bank.pass(999);
        }
        bank.pass(9);
        return bank;
    }

    /** "If several errors apply, the one that comes first in this list is returned." */
    private static void badBeforeState() {
        Supplier<LimitBank> busy = ErrorEdgesTest::busyBank;
        Check.refused(busy, "a capacity of -1", BAD, b -> b.setResource(0, false, -1));
        Check.refused(busy, "a least capacity", BAD,
                b -> b.setResource(0, false, Integer.MIN_VALUE));
        Check.refused(busy, "a limit of -1", BAD, b -> b.setLimit(0, 0, -1));
        Check.refused(busy, "a limit of -1 with a loan", BAD, b -> b.setLimit(0, 1, -1));
        Check.refused(busy, "a limit of nobody", BAD, b -> b.setLimit(2, 0, 0));
        Check.refused(busy, "exchange by a bankrupt for the same", BAD,
                b -> b.exchange(1, 0, 0, 1));
        Check.refused(busy, "exchange of 0 by a bankrupt", BAD, b -> b.exchange(1, 0, 1, 0));
        Check.refused(busy, "exchange of 1000, not free", BAD, b -> b.exchange(0, 0, 1, 1000));
        Check.refused(busy, "exchange of -1, m not above 0", BAD, b -> b.exchange(0, 0, 1, -1));
        Check.refused(busy, "exchange of no resource, not free", BAD,
                b -> b.exchange(0, 4, 1, 16));
        Check.refused(busy, "exchange for no resource, not free", BAD,
                b -> b.exchange(0, 0, -1, 16));
        Check.refused(busy, "exchange by nobody, not free", BAD, b -> b.exchange(2, 0, 1, 16));
        Check.refused(busy, "borrow 0 by a bankrupt", BAD, b -> b.borrow(1, 0, 0));
        Check.refused(busy, "borrow of no resource by a bankrupt", BAD, b -> b.borrow(1, 4, 1));
        Check.refused(busy, "borrow 1000, not in the fund", BAD, b -> b.borrow(0, 0, 1000));
        Check.refused(busy, "borrow by nobody, not in the fund", BAD, b -> b.borrow(2, 0, 61));
        Check.refused(busy, "repay 0 without a loan", BAD, b -> b.repay(0, 0, 0));
        Check.refused(busy, "repay 1000, not borrowed", BAD, b -> b.repay(0, 1, 1000));
        Check.refused(busy, "repay of no resource", BAD, b -> b.repay(1, -1, 1));
        Check.refused(busy, "repay by nobody", BAD, b -> b.repay(2, 0, 1));
        Check.refused(busy, "withdraw by nobody", BAD, b -> b.withdraw(2));
        Check.refused(LimitBank::new, "withdraw where there is nobody", BAD, b -> b.withdraw(0));
    }

    /** The same sentence, for demand(). */
    private static void badBeforeStateOfTexts() {
        for (String text : new String[] {"", "cpu", "x", "cpu 0", "cpu 100"}) {
            Supplier<LimitBank> maker = () -> typed(busyBank(), text);
            Check.refused(maker, "demand(-1) of \"" + text + "\"", BAD, b -> b.demand(-1));
            Check.refused(maker, "demand(2) of \"" + text + "\"", BAD, b -> b.demand(2));
            Check.refused(maker, "demand(0) of \"" + text + "\"", STATE, b -> b.demand(0));
            Check.refused(maker, "demand(1) of \"" + text + "\"", STATE, b -> b.demand(1));
        }
    }

    /** The same sentence, where there would be too many, too. */
    private static void badBeforeFull() {
        Supplier<LimitBank> text = () -> typed(new LimitBank(), " ".repeat(60));
        Check.refused(text, "type(-1) to 60 bytes", BAD, b -> b.type(-1));
        Check.refused(text, "type(128) to 60 bytes", BAD, b -> b.type(128));
        Check.refused(ErrorEdgesTest::sixTenants, "addTenant(0) to six", BAD, b -> b.addTenant(0));
        Check.refused(ErrorEdgesTest::sixTenants, "addTenant(10) to six", BAD,
                b -> b.addTenant(10));
        Supplier<LimitBank> queue = () -> fullQueue("mem 1");
        Check.refused(queue, "demand(2) to 24", BAD, b -> b.demand(2));
        Check.refused(queue, "demand(-1) to 24", BAD, b -> b.demand(-1));
        Supplier<LimitBank> limit = () -> fullLimit(60);
        Check.refused(limit, "exchange of 1000 to 9999", BAD, b -> b.exchange(0, 3, 1, 1000));
        Check.refused(limit, "exchange by nobody to 9999", BAD, b -> b.exchange(1, 3, 1, 1));
        Check.refused(limit, "exchange for the same to 9999", BAD, b -> b.exchange(0, 1, 1, 1));
        Check.refused(limit, "borrow 1000 to 9999", BAD, b -> b.borrow(0, 1, 1000));
        Check.refused(limit, "borrow by nobody to 9999", BAD, b -> b.borrow(1, 1, 1));
        Check.refused(ErrorEdgesTest::lastTime, "pass(0) at 9999", BAD, b -> b.pass(0));
        Check.refused(ErrorEdgesTest::lastTime, "pass(1000) at 9999", BAD, b -> b.pass(1000));
        Check.refused(ErrorEdgesTest::lastTime, "pass(greatest) at 9999", BAD,
                b -> b.pass(Integer.MAX_VALUE));
    }

    /** The same sentence: the queue is full, and the demand is impossible anyway. */
    private static void stateBeforeFullOfDemands() {
        Check.refused(() -> fullQueue("mem 1"), "demand by a bankrupt to 24", STATE,
                b -> b.demand(1));
        for (String text : new String[] {"", "cpu", "mem 0", "mem 100"}) {
            Check.refused(() -> fullQueue(text), "demand(0) of \"" + text + "\" to 24", STATE,
                    b -> b.demand(0));
        }
        Check.refused(() -> fullQueue("mem 1"), "demand(0) to 24", FULL, b -> b.demand(0));
    }

    /** The same sentence: there are 40 grants, and none is next. */
    private static void stateBeforeFullOfGrants() {
        Supplier<LimitBank> none = () -> fullGrants("");
        Check.refused(none, "grant() without demands at 40", STATE, LimitBank::grant);
        Check.refused(none, "grantAll() without demands at 40", STATE, LimitBank::grantAll);
        Supplier<LimitBank> large = () -> fullGrants("net 60");
        Check.refused(large, "grant() of what does not fit at 40", STATE, LimitBank::grant);
        Check.refused(large, "grantAll() of what does not fit at 40", STATE, LimitBank::grantAll);
        Supplier<LimitBank> next = () -> fullGrants("net 59");
        Check.refused(next, "grant() at 40", FULL, LimitBank::grant);
        Check.refused(next, "grantAll() at 40", FULL, LimitBank::grantAll);
    }

    /** The same sentence: a limit would be above 9999, and the units are not there anyway. */
    private static void stateBeforeFullOfLimits() {
        Supplier<LimitBank> limit = () -> fullLimit(11);
        Check.refused(limit, "exchange above the free part to 9999", STATE,
                b -> b.exchange(0, 0, 1, 16));
        Check.refused(limit, "exchange of a loan to 9999", STATE, b -> b.exchange(0, 2, 1, 13));
        Check.refused(limit, "exchange above the fund to 9999", STATE,
                b -> b.exchange(0, 0, 1, 12));
        Check.refused(limit, "exchange to 9999", FULL, b -> b.exchange(0, 0, 1, 11));
        Check.refused(limit, "borrow above the fund to 9999", STATE, b -> b.borrow(0, 1, 12));
        Check.refused(limit, "borrow above the weight to 9999", STATE, b -> b.borrow(0, 1, 3));
        Check.refused(limit, "borrow to 9999", FULL, b -> b.borrow(0, 1, 2));
        Supplier<LimitBank> bankrupt = ErrorEdgesTest::fullLimitOfABankrupt;
        Check.refused(bankrupt, "exchange by a bankrupt to 9999", STATE,
                b -> b.exchange(1, 0, 1, 1));
        Check.refused(bankrupt, "borrow by a bankrupt to 9999", STATE, b -> b.borrow(1, 1, 1));
    }

    /** "NONE ... is returned only if no error applies." */
    private static void badBeforeNone() {
        Supplier<LimitBank> busy = ErrorEdgesTest::busyBank;
        Check.refused(busy, "granted(1, 5)", BAD, b -> b.granted(1, 5));
        Check.refused(busy, "granted(1, -1)", BAD, b -> b.granted(1, -1));
        Check.refused(busy, "granted(-1, 0)", BAD, b -> b.granted(-1, 0));
        Check.refused(busy, "demanded(0, 5)", BAD, b -> b.demanded(0, 5));
        Check.refused(busy, "demanded(0, -1)", BAD, b -> b.demanded(0, -1));
        Check.refused(busy, "demanded(-1, 0)", BAD, b -> b.demanded(-1, 0));
        Check.refused(busy, "plan(-2)", BAD, b -> b.plan(-2));
        Check.refused(busy, "tenant(2, 6)", BAD, b -> b.tenant(2, 6));
        Check.refused(busy, "tenant(2, 7)", BAD, b -> b.tenant(2, 7));
        Check.refused(busy, "ruin(2)", BAD, b -> b.ruin(2));
    }

    /** "NONE is no error; it means that there is no such thing" */
    private static void noneIsNoError() {
        Supplier<LimitBank> busy = ErrorEdgesTest::busyBank;
        Check.refused(busy, "granted(1, 4)", NONE, b -> b.granted(1, 4));
        Check.refused(busy, "demanded(0, 4)", NONE, b -> b.demanded(0, 4));
        Check.refused(busy, "plan(0)", NONE, b -> b.plan(0));
        Check.refused(busy, "tenant(0, 6)", NONE, b -> b.tenant(0, 6));
        Check.refused(busy, "tenant(0, 7)", NONE, b -> b.tenant(0, 7));
        Check.refused(busy, "ruin(0)", NONE, b -> b.ruin(0));
        Check.refused(busy, "fault()", NONE, LimitBank::fault);
    }

    /** "STATE: the call is not possible now"; "A call that returns an error changes nothing." */
    private static void stateAlone() {
        Supplier<LimitBank> busy = ErrorEdgesTest::busyBank;
        Check.refused(busy, "a capacity below the use", STATE, b -> b.setResource(0, false, 4));
        Check.refused(busy, "a limit below the use", STATE, b -> b.setLimit(0, 0, 4));
        Check.refused(busy, "a limit below the loan", STATE, b -> b.setLimit(0, 1, 3));
        Check.refused(busy, "withdraw(0)", STATE, b -> b.withdraw(0));
        Check.refused(busy, "withdraw(1)", STATE, b -> b.withdraw(1));
        Check.refused(busy, "grant()", STATE, LimitBank::grant);
        Check.refused(busy, "grantAll()", STATE, LimitBank::grantAll);
        Check.refused(busy, "exchange above the free part", STATE, b -> b.exchange(0, 0, 2, 16));
        Check.refused(busy, "exchange of a loan", STATE, b -> b.exchange(0, 1, 2, 21));
        Check.refused(busy, "exchange for nothing", STATE, b -> b.exchange(0, 0, 3, 6));
        Check.refused(busy, "exchange above the fund", STATE, b -> b.exchange(0, 3, 2, 7));
        Check.refused(busy, "exchange by a bankrupt", STATE, b -> b.exchange(1, 0, 1, 1));
        Check.refused(busy, "borrow above the fund", STATE, b -> b.borrow(0, 0, 61));
        Check.refused(busy, "borrow above the weight", STATE, b -> b.borrow(0, 0, 7));
        Check.refused(busy, "borrow by a bankrupt", STATE, b -> b.borrow(1, 0, 1));
        Check.refused(busy, "repay above the loan", STATE, b -> b.repay(0, 1, 5));
        Check.refused(busy, "repay by a bankrupt", STATE, b -> b.repay(1, 3, 1));
        Check.refused(LimitBank::new, "undo() of nothing", STATE, LimitBank::undo);
        Check.refused(LimitBank::new, "grant() of nothing", STATE, LimitBank::grant);
        Check.refused(LimitBank::new, "grantAll() of nothing", STATE, LimitBank::grantAll);
    }

    /** "FULL: a limit of numbers would be exceeded." */
    private static void fullAlone() {
        Check.refused(() -> typed(new LimitBank(), " ".repeat(60)), "type(0) to 60 bytes", FULL,
                b -> b.type(0));
        Check.refused(ErrorEdgesTest::sixTenants, "addTenant(1) to six", FULL,
                b -> b.addTenant(1));
        Check.refused(ErrorEdgesTest::lastTime, "pass(1) at 9999", FULL, b -> b.pass(1));
        Check.refused(ErrorEdgesTest::lastTime, "pass(999) at 9999", FULL, b -> b.pass(999));
    }

    /** "BAD is less than all points": the least ones are those of -50 times the weight 9. */
    private static void pointsAreAboveBad() {
        LimitBank bank = new LimitBank();
        bank.addTenant(9);
        bank.setResource(0, true, 99);
        bank.setResource(1, true, 99);
        bank.setResource(1, false, 9);
        bank.borrow(0, 0, 45);
        bank.borrow(0, 1, 4);
        Check.due("pass(1)", bank.pass(1), 0);
        Check.due("the least points", bank.tenant(0, 1), -450);
        Check.due("BAD is less", BAD < bank.tenant(0, 1) ? 1 : 0, 1);
        Check.due("points of nobody", bank.tenant(1, 1), BAD);
        Check.due("pass(1)", bank.pass(1), 1);
        Check.due("points of a bankrupt", bank.tenant(0, 1), 0);
    }
}
