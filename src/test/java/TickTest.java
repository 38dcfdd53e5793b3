/** Promises 18 (pass) and 27 (ruin). */
final class TickTest {
    public static void main(String[] args) {
        points();
        interest();
        debtAtItsBound();
        bankruptcy();
        queueOfBankrupts();
        restIsAskedInEachTick();
        pricesFallByBankruptcy();
        timeIsFull();
        ruins();
        ruinAtTheEnds();
        ruinByOthers();
        Check.end("TickTest");
    }

    private static void points() {
        LimitBank bank = Check.bank(10, 100, 2, 9);
        Check.due("pass(1)", bank.pass(1), 0);
        Check.due("points of 0", bank.tenant(0, 1), 10);
        Check.due("points of 1", bank.tenant(1, 1), 45);
        bank.borrow(0, 0, 3);
        bank.borrow(0, 1, 4);
        Check.due("pass(2)", bank.pass(2), 0);
        Check.due("points less the loans", bank.tenant(0, 1), 10 + 2 * (10 - 7));
        Check.demand(bank, 0, "cpu 3", 1);
        bank.grant();
        Check.due("price", bank.resource(0, 3), 3);
        bank.pass(1);
        Check.due("points less the dear loans", bank.tenant(0, 1), 16 + 10 - 9 - 4);
        Check.due("count(0)", bank.count(0), 4);
    }

    /** A debt of 25 pays 3, one of 20 pays 2, one of 21 pays 3. */
    private static void interest() {
        int[] loans = {3, 4};
        int[] points = {-25 - 3, -35 - 4};
        for (int i = 0; i < loans.length; i++) {
            LimitBank bank = Check.bank(0, 100, 1);
            bank.borrow(0, 0, loans[i]);
            bank.pass(1);
            Check.due("points", bank.tenant(0, 1), points[i]);
        }
        LimitBank bank = Check.bank(0, 100, 2);
        bank.borrow(0, 0, 3);
        bank.pass(1);
        Check.due("a debt of 20", bank.tenant(0, 1), -22);
        bank.repay(0, 0, 3);
        bank.pass(1);
        Check.due("a debt of 12", bank.tenant(0, 1), -14);
        bank.pass(1);
        Check.due("a debt of 4", bank.tenant(0, 1), -5);
        bank.pass(1);
        Check.due("no debt", bank.tenant(0, 1), 5);
        LimitBank one = new LimitBank();
        one.addTenant(1);
        one.setResource(0, true, 9);
        one.setResource(0, false, 9);
        one.borrow(0, 0, 6);
        one.pass(1);
        Check.due("a debt of 1", one.tenant(0, 1), -2);
        LimitBank even = Check.bank(0, 100, 2);
        even.borrow(0, 0, 1);
        even.pass(1);
        Check.due("points of 0 pay nothing", even.tenant(0, 1), 0);
    }

    /** The debt is 45 + 5 in a tick of a bank with prices of 10 and 1. */
    private static void debtAtItsBound() {
        LimitBank bank = new LimitBank();
        bank.addTenant(1);
        bank.setResource(0, false, 9);
        bank.setResource(0, true, 99);
        bank.setResource(1, true, 99);
        bank.borrow(0, 1, 5);
        Check.due("pass(1)", bank.pass(1), 0);
        Check.due("a debt of 45 and its interest", bank.tenant(0, 1), -50);
        Check.due("a debt of 50 is no bankruptcy", bank.tenant(0, 3), 1);
        bank.undo();
        bank.undo();
        bank.borrow(0, 1, 5);
        bank.borrow(0, 0, 1);
        Check.due("pass(1) to a debt of 51", bank.pass(1), 1);
        Check.due("solvent", bank.tenant(0, 3), 0);
    }

    private static void bankruptcy() {
        LimitBank bank = Check.bank(90, 995, 1, 3);
        Check.setLimits(bank, 0, 90);
        Check.setLimits(bank, 1, 90);
        Check.demand(bank, 0, "cpu 20 mem 60", 1);
        Check.demand(bank, 1, "cpu 10 net 1", 2);
        Check.demand(bank, 0, "cpu 20 mem 30 disk 2", 3);
        Check.due("grantAll()", bank.grantAll(), 3);
        Check.demand(bank, 0, "cpu 90", 1);
        Check.demand(bank, 1, "cpu 91", 2);
        Check.demand(bank, 0, "disk 90", 3);
        Check.due("borrow(0, 1, 4)", bank.borrow(0, 1, 4), 4);
        Check.due("borrow(0, 2, 6)", bank.borrow(0, 2, 6), 6);
        bank.setResource(1, true, 998);
        Check.due("ruin(0)", bank.ruin(0), 2);
        Check.due("ruin(1)", bank.ruin(1), LimitBank.NONE);
        Check.due("pass(1)", bank.pass(1), 0);
        Check.due("points: 5 - 46 - 5", bank.tenant(0, 1), -46);
        Check.due("pass(1)", bank.pass(1), 1);
        int[] want = {1, 0, 0, 0, 0, 0, 0, 2};
        for (int what = 0; what < want.length; what++) {
            Check.due("tenant(0, " + what + ")", bank.tenant(0, what), want[what]);
        }
        for (int r = 0; r < 4; r++) {
            Check.due("limit " + r, bank.account(0, r, 0), 90);
            Check.due("loan " + r, bank.account(0, r, 1), 0);
            Check.due("use " + r, bank.account(0, r, 2), 0);
            Check.due("use by the other one " + r, bank.resource(r, 2),
                    bank.account(1, r, 2));
        }
        Check.due("a fund with a loss", bank.resource(1, 1), 999);
        Check.due("a fund without one", bank.resource(2, 1), 995);
        Check.due("count(2)", bank.count(2), 1);
        Check.due("count(3)", bank.count(3), 1);
        Check.due("the other one's demand", bank.demanded(0, 4), 1);
        Check.due("the other one's grant", bank.granted(1, 4), 1);
        Check.due("count(4)", bank.count(4), 1);
        Check.due("count(7)", bank.count(7), 1);
        Check.due("ruin(0)", bank.ruin(0), 0);
        bank.pass(2);
        Check.due("no points for bankrupts", bank.tenant(0, 1), 0);
        Check.due("a rest of 3 ticks is not over", bank.tenant(0, 3), 0);
        Check.due("pass(1)", bank.pass(1), 0);
        Check.due("solvent again", bank.tenant(0, 3), 1);
        Check.due("no points in that tick", bank.tenant(0, 1), 0);
        Check.due("place", bank.tenant(0, 6), LimitBank.NONE);
        Check.due("the time stays", bank.tenant(0, 7), 2);
        Check.due("count(7) stays", bank.count(7), 1);
        bank.pass(1);
        Check.due("points again", bank.tenant(0, 1), 5);
    }

    private static LimitBank threeToFall() {
        LimitBank bank = Check.bank(0, 900, 1, 1, 1);
        for (int t = 2; t >= 0; t--) {
            Check.due("borrow", bank.borrow(t, t, 10), 10);
        }
        return bank;
    }

    private static void queueOfBankrupts() {
        LimitBank bank = threeToFall();
        Check.due("pass(1)", bank.pass(1), 3);
        for (int t = 0; t < 3; t++) {
            Check.due("place of " + t, bank.tenant(t, 6), t);
            Check.due("time of " + t, bank.tenant(t, 7), 1);
        }
        Check.due("count(7)", bank.count(7), 3);
        Check.due("pass(4)", bank.pass(4), 1);
        bank.undo();
        for (int t = 0; t < 3; t++) {
            Check.due("place of " + t + " after undo()", bank.tenant(t, 6), t);
        }
        Check.due("pass(2)", bank.pass(2), 3);
        Check.due("pass(1): one alone leaves", bank.pass(1), 2);
        Check.due("place of 0", bank.tenant(0, 6), LimitBank.NONE);
        Check.due("place of 1", bank.tenant(1, 6), 0);
        Check.due("place of 2", bank.tenant(2, 6), 1);
        Check.due("borrow(0, 0, 10)", bank.borrow(0, 0, 10), 10);
        Check.due("pass(1): 0 falls, 1 leaves", bank.pass(1), 2);
        Check.due("place of 2", bank.tenant(2, 6), 0);
        Check.due("place of 0", bank.tenant(0, 6), 1);
        Check.due("time of 0", bank.tenant(0, 7), 5);
        Check.due("count(7)", bank.count(7), 4);
        Check.due("pass(1): 2 leaves", bank.pass(1), 1);
        Check.due("pass(1): 0 waits", bank.pass(1), 1);
        Check.due("pass(1): 0 leaves", bank.pass(1), 0);
    }

    private static void restIsAskedInEachTick() {
        LimitBank bank = threeToFall();
        bank.setRest(1);
        Check.due("pass(1): nobody leaves in the same tick", bank.pass(1), 3);
        Check.due("pass(1)", bank.pass(1), 2);
        bank.setRest(5);
        Check.due("pass(3)", bank.pass(3), 2);
        Check.due("pass(1)", bank.pass(1), 1);
        bank.setRest(99);
        Check.due("pass(93)", bank.pass(93), 1);
        Check.due("pass(1)", bank.pass(1), 0);
    }

    private static void pricesFallByBankruptcy() {
        LimitBank bank = Check.bank(10, 100, 1, 9);
        Check.setLimits(bank, 0, 10);
        Check.demand(bank, 0, "cpu 10", 1);
        bank.grant();
        bank.borrow(0, 0, 10);
        bank.borrow(1, 0, 2);
        Check.due("pass(1)", bank.pass(1), 1);
        Check.due("the price when the tick began", bank.tenant(1, 1), 45 - 20);
        Check.due("price", bank.resource(0, 3), 1);
        bank.pass(1);
        Check.due("the price of the next tick", bank.tenant(1, 1), 25 + 45 - 2);
    }

    private static void timeIsFull() {
        LimitBank bank = Check.bank(1, 1, 1);
        long before = bank.digest();
        int[] wrong = {0, 1000, -1, Integer.MIN_VALUE, Integer.MAX_VALUE};
        for (int ticks : wrong) {
            Check.refused(bank, before, "pass(" + ticks + ")", bank.pass(ticks), LimitBank.BAD);
        }
        for (int i = 0; i < 10; i++) {
            Check.due("pass(999)", bank.pass(999), 0);
        }
        before = bank.digest();
        Check.refused(bank, before, "pass(10)", bank.pass(10), LimitBank.FULL);
        Check.refused(bank, before, "pass(1000)", bank.pass(1000), LimitBank.BAD);
        Check.due("pass(9)", bank.pass(9), 0);
        Check.due("count(0)", bank.count(0), 9999);
        Check.due("pass(1)", bank.pass(1), LimitBank.FULL);
        Check.due("points", bank.tenant(0, 1), 5 * 9999);
    }

    private static void ruins() {
        LimitBank bank = Check.bank(0, 100, 9);
        int[] wrong = {-1, 1, 6, Integer.MIN_VALUE, Integer.MAX_VALUE};
        for (int tenant : wrong) {
            Check.due("ruin(" + tenant + ")", bank.ruin(tenant), LimitBank.BAD);
        }
        Check.due("ruin(0) without loans", bank.ruin(0), LimitBank.NONE);
        bank.pass(3);
        bank.borrow(0, 2, 12);
        long before = bank.digest();
        int ticks = bank.ruin(0);
        Check.due("ruin(0) changes nothing", bank.digest(), before);
        for (int i = 1; i < ticks; i++) {
            Check.due("pass(1)", bank.pass(1), 0);
            Check.due("ruin(0)", bank.ruin(0), ticks - i);
        }
        Check.due("pass(1)", bank.pass(1), 1);
        Check.due("points of 135, less 75 and interest a tick", ticks, 7);
        bank.pass(2);
        Check.due("ruin(0) of a bankrupt", bank.ruin(0), 0);
        bank.pass(1);
        Check.due("ruin(0) of one solvent again", bank.ruin(0), LimitBank.NONE);
    }

    /** Points that fall by 5 a tick to 0, and then are bankrupt by interest in 7 ticks more. */
    private static void ruinAtTheEnds() {
        LimitBank bank = Check.bank(0, 100, 1);
        bank.pass(192);
        bank.borrow(0, 0, 1);
        Check.due("ruin(0) after 192 ticks", bank.ruin(0), 199);
        bank.undo();
        bank.pass(1);
        bank.borrow(0, 0, 1);
        Check.due("ruin(0) after 193 ticks", bank.ruin(0), 200);
        bank.undo();
        bank.pass(1);
        bank.borrow(0, 0, 1);
        Check.due("ruin(0) after 194 ticks", bank.ruin(0), LimitBank.NONE);
        bank.pass(1);
        Check.due("ruin(0), a tick later", bank.ruin(0), 200);
        LimitBank late = Check.bank(0, 100, 9);
        for (int i = 0; i < 10; i++) {
            late.pass(999);
        }
        late.pass(9);
        late.setWeight(0, 4);
        Check.due("borrow", late.borrow(0, 0, 40), 40);
        Check.due("ruin(0) after the time 9999", late.ruin(0), LimitBank.NONE);
        LimitBank last = Check.bank(0, 100, 1);
        last.setResource(0, false, 1);
        last.borrow(0, 0, 5);
        for (int i = 0; i < 10; i++) {
            last.pass(999);
        }
        last.pass(9);
        last.setResource(0, false, 0);
        Check.due("points", last.tenant(0, 1), 0);
        Check.due("ruin(0) beyond the time 9999", last.ruin(0), 2);
    }

    /** When tenant 0 falls, its use is gone, and the loans of tenant 1 become cheap. */
    private static void ruinByOthers() {
        LimitBank bank = Check.bank(10, 100, 1, 9);
        Check.setLimits(bank, 0, 10);
        Check.demand(bank, 0, "cpu 10", 1);
        bank.grant();
        bank.borrow(1, 0, 40);
        Check.due("ruin(1) while 0 does not fall", bank.ruin(1), 2);
        bank.borrow(0, 0, 10);
        Check.due("ruin(0)", bank.ruin(0), 1);
        Check.due("ruin(1) when 0 falls first", bank.ruin(1), 3);
        int ticks = 0;
        while (bank.tenant(1, 3) == 1 && ticks < 99) {
            bank.pass(1);
            ticks++;
        }
        Check.due("pass until 1 falls", ticks, 3);
    }
}
