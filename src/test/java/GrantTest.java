/** Promises 12 (grant), 13 (grantAll), 14 (release), 23 (granted) and 25 (plan). */
final class GrantTest {
    public static void main(String[] args) {
        leastShareFirst();
        leastNumberOfEqualShares();
        roundedSharesAreEqual();
        onlyFirstDemandsAreLookedAt();
        limitsAndCapacitiesAreKept();
        grantsAtOnce();
        fullGrants();
        releases();
        told();
        plans();
        Check.end("GrantTest");
    }

    private static void leastShareFirst() {
        LimitBank bank = Check.bank(100, 0, 1, 2);
        Check.setLimits(bank, 0, 100);
        Check.setLimits(bank, 1, 100);
        int[] want = {0, 1, 1, 0, 1, 1, 0};
        for (int i = 0; i < 4; i++) {
            Check.demand(bank, 0, "cpu 4", 2 * i + 1);
            Check.demand(bank, 1, "mem 4", 2 * i + 2);
        }
        for (int i = 0; i < want.length; i++) {
            Check.due("grant() " + i, bank.grant(), want[i]);
        }
        Check.due("share of 0", bank.tenant(0, 2), 1200);
        Check.due("share of 1", bank.tenant(1, 2), 800);
        Check.due("grant() of the last one", bank.grant(), 0);
        Check.due("share of 0", bank.tenant(0, 2), 1600);
        Check.due("grant() of none", bank.grant(), LimitBank.STATE);
    }

    private static void leastNumberOfEqualShares() {
        LimitBank bank = Check.bank(100, 0, 1, 1, 1);
        for (int t = 2; t >= 0; t--) {
            Check.setLimits(bank, t, 100);
            Check.demand(bank, t, "cpu 5", 3 - t);
        }
        for (int t = 0; t < 3; t++) {
            Check.due("grant()", bank.grant(), t);
        }
    }

    /** 10000 * 1 / (7 * 999) and 10000 * 1 / (7 * 998) are both 1. */
    private static void roundedSharesAreEqual() {
        LimitBank bank = new LimitBank();
        bank.addTenant(7);
        bank.addTenant(7);
        bank.setResource(0, false, 998);
        bank.setResource(1, false, 999);
        Check.setLimits(bank, 0, 10);
        Check.setLimits(bank, 1, 10);
        Check.demand(bank, 0, "cpu 1", 1);
        Check.demand(bank, 1, "mem 1", 2);
        bank.grantAll();
        Check.due("share of 0", bank.tenant(0, 2), 1);
        Check.due("share of 1", bank.tenant(1, 2), 1);
        Check.demand(bank, 1, "cpu 1", 1);
        Check.demand(bank, 0, "cpu 1", 2);
        Check.due("grant()", bank.grant(), 0);
    }

    private static void onlyFirstDemandsAreLookedAt() {
        LimitBank bank = Check.bank(10, 0, 1, 1);
        Check.setLimits(bank, 0, 20);
        Check.setLimits(bank, 1, 20);
        Check.demand(bank, 0, "cpu 11", 1);
        Check.demand(bank, 0, "cpu 1", 2);
        Check.due("grant() behind a demand that does not fit", bank.grant(), LimitBank.STATE);
        Check.due("plan(-1)", bank.plan(-1), 0);
        Check.demand(bank, 1, "cpu 9", 3);
        Check.due("grant() of the other one", bank.grant(), 1);
        bank.withdraw(0);
        Check.due("grant() after withdraw", bank.grant(), 0);
        Check.due("use", bank.resource(0, 2), 10);
    }

    private static void limitsAndCapacitiesAreKept() {
        LimitBank bank = Check.bank(10, 0, 1, 1);
        Check.setLimits(bank, 0, 6);
        Check.setLimits(bank, 1, 6);
        Check.demand(bank, 0, "mem 7", 1);
        Check.due("grant() above the limit", bank.grant(), LimitBank.STATE);
        bank.withdraw(0);
        Check.demand(bank, 0, "mem 6", 1);
        Check.due("grant() of all the limit", bank.grant(), 0);
        Check.demand(bank, 0, "mem 1", 1);
        Check.due("grant() above the limit, again", bank.grant(), LimitBank.STATE);
        Check.demand(bank, 1, "mem 5", 2);
        Check.due("grant() above the capacity", bank.grant(), LimitBank.STATE);
        bank.withdraw(1);
        Check.demand(bank, 1, "mem 4", 2);
        Check.due("grant() of all the capacity", bank.grant(), 1);
        Check.due("price", bank.resource(1, 3), 10);
    }

    private static void grantsAtOnce() {
        LimitBank bank = Check.bank(100, 0, 1, 2);
        Check.setLimits(bank, 0, 100);
        Check.setLimits(bank, 1, 5);
        Check.demand(bank, 0, "cpu 4", 1);
        Check.demand(bank, 0, "cpu 5", 2);
        Check.demand(bank, 1, "cpu 3", 3);
        Check.demand(bank, 1, "cpu 3", 4);
        int history = bank.count(8);
        long before = bank.digest();
        Check.due("grantAll()", bank.grantAll(), 3);
        Check.due("count(8): one change", bank.count(8), Math.min(history + 1, 8));
        Check.due("count(3)", bank.count(3), 1);
        Check.due("count(5)", bank.count(5), 3);
        int[] owners = {0, 1, 0};
        int[] cpus = {4, 3, 5};
        for (int g = 0; g < 3; g++) {
            Check.due("granted(" + g + ", 4)", bank.granted(g, 4), owners[g]);
            Check.due("granted(" + g + ", 0)", bank.granted(g, 0), cpus[g]);
        }
        long after = bank.digest();
        Check.refused(bank, after, "grantAll() of none", bank.grantAll(), LimitBank.STATE);
        Check.refused(bank, after, "grant() of none", bank.grant(), LimitBank.STATE);
        bank.undo();
        Check.due("count(2) after undo", bank.count(2), 0);
        Check.due("count(5) after undo", bank.count(5), 0);
        Check.due("count(3) after undo", bank.count(3), 4);
        Check.due("the digest differs by the history alone", bank.count(8) < 8 ? 1 : 0, 1);
        Check.due("digest differs", before != after ? 1 : 0, 1);
    }

    private static void fullGrants() {
        LimitBank bank = Check.bank(99, 0, 1);
        Check.setLimits(bank, 0, 99);
        for (int i = 0; i < 20; i++) {
            Check.demand(bank, 0, "cpu 1", i + 1);
        }
        Check.due("grantAll() of 20", bank.grantAll(), 20);
        for (int i = 0; i < 24; i++) {
            Check.demand(bank, 0, "cpu 1", i + 1);
        }
        Check.due("plan(-1) up to 40 grants", bank.plan(-1), 20);
        Check.due("plan(19)", bank.plan(19), 0);
        Check.due("plan(20)", bank.plan(20), LimitBank.NONE);
        Check.due("grantAll() up to 40 grants", bank.grantAll(), 20);
        Check.due("count(2)", bank.count(2), 40);
        Check.due("count(3)", bank.count(3), 4);
        Check.due("plan(-1) of 40 grants", bank.plan(-1), 0);
        long before = bank.digest();
        Check.refused(bank, before, "grant() of 40", bank.grant(), LimitBank.FULL);
        Check.refused(bank, before, "grantAll() of 40", bank.grantAll(), LimitBank.FULL);
        Check.due("release(17)", bank.release(17), 39);
        Check.due("grant() of the fortieth", bank.grant(), 0);
        Check.due("granted(40, 0)", bank.granted(40, 0), 1);
        for (int i = 0; i < 3; i++) {
            bank.withdraw(0);
        }
        before = bank.digest();
        Check.refused(bank, before, "grant() of none at 40", bank.grant(), LimitBank.STATE);
        Check.refused(bank, before, "grantAll() of none at 40", bank.grantAll(), LimitBank.STATE);
    }

    private static void releases() {
        LimitBank bank = Check.bank(50, 0, 1, 1);
        Check.setLimits(bank, 0, 50);
        Check.setLimits(bank, 1, 50);
        Check.demand(bank, 0, "cpu 1 mem 2 net 3 disk 4", 1);
        Check.demand(bank, 1, "cpu 5 mem 6 net 7 disk 8", 2);
        bank.grantAll();
        Check.due("use", bank.resource(3, 2), 12);
        long before = bank.digest();
        int[] wrong = {2, -1, Integer.MIN_VALUE, Integer.MAX_VALUE, LimitBank.NONE};
        for (int grant : wrong) {
            Check.refused(bank, before, "release(" + grant + ")", bank.release(grant),
                    LimitBank.BAD);
        }
        Check.due("release(0)", bank.release(0), 1);
        Check.due("release(0) again", bank.release(0), LimitBank.BAD);
        Check.due("use", bank.resource(3, 2), 8);
        Check.due("use by 0", bank.account(0, 3, 2), 0);
        Check.due("use by 1", bank.account(1, 3, 2), 8);
        Check.due("granted(0, 4)", bank.granted(0, 4), LimitBank.NONE);
        Check.due("granted(1, 4)", bank.granted(1, 4), 1);
        Check.due("release(1)", bank.release(1), 0);
        Check.demand(bank, 1, "net 9", 1);
        bank.grant();
        Check.due("numbers are not used again", bank.granted(2, 2), 9);
        Check.due("count(5)", bank.count(5), 3);
    }

    private static void told() {
        LimitBank bank = Check.bank(50, 0, 1);
        Check.setLimits(bank, 0, 50);
        Check.demand(bank, 0, "cpu 1 mem 2 net 3 disk 4", 1);
        bank.grant();
        int[] want = {1, 2, 3, 4, 0};
        for (int what = 0; what < want.length; what++) {
            Check.due("granted(0, " + what + ")", bank.granted(0, what), want[what]);
            Check.due("granted(1, " + what + ")", bank.granted(1, what), LimitBank.NONE);
            Check.due("granted(-1, " + what + ")", bank.granted(-1, what), LimitBank.BAD);
        }
        Check.due("granted(0, 5)", bank.granted(0, 5), LimitBank.BAD);
        Check.due("granted(0, -1)", bank.granted(0, -1), LimitBank.BAD);
        Check.due("granted(9, 5)", bank.granted(9, 5), LimitBank.BAD);
        Check.due("granted(NONE, 0)", bank.granted(LimitBank.NONE, 0), LimitBank.BAD);
        Check.due("granted(greatest, 0)", bank.granted(Integer.MAX_VALUE, 0), LimitBank.NONE);
    }

    private static void plans() {
        LimitBank bank = Check.bank(100, 0, 1, 2, 3);
        for (int t = 0; t < 3; t++) {
            Check.setLimits(bank, t, 100);
            for (int i = 0; i < 3; i++) {
                Check.demand(bank, t, "cpu 6", 3 * t + i + 1);
            }
        }
        int[] want = {0, 1, 2, 2, 1, 2, 0, 1, 0};
        long before = bank.digest();
        Check.due("plan(-1)", bank.plan(-1), want.length);
        for (int i = 0; i < want.length; i++) {
            Check.due("plan(" + i + ")", bank.plan(i), want[i]);
        }
        Check.due("plan(9)", bank.plan(9), LimitBank.NONE);
        Check.due("plan(greatest)", bank.plan(Integer.MAX_VALUE), LimitBank.NONE);
        Check.due("plan(-2)", bank.plan(-2), LimitBank.BAD);
        Check.due("plan(least)", bank.plan(Integer.MIN_VALUE), LimitBank.BAD);
        Check.due("a plan changes nothing", bank.digest(), before);
        for (int i = 0; i < want.length; i++) {
            Check.due("grant() as planned", bank.grant(), want[i]);
        }
        Check.due("plan(-1) of none", bank.plan(-1), 0);
        Check.due("plan(0) of none", bank.plan(0), LimitBank.NONE);
    }
}
