/** The sentences of "Granting" that name a bound, a test each. */
final class GrantEdgesTest {
    private static final String[] NAMES = {"cpu", "mem", "net", "disk"};

    public static void main(String[] args) {
        onlyTheFirstDemandIsLookedAt();
        limitsAreReachedAndNotPassed();
        capacitiesAreReachedAndNotPassed();
        nothingNeedsNoCapacity();
        leastShareIsNext();
        leastShareOfAllIsNext();
        nextCanStandAnywhereInTheQueue();
        leastNumberOfSeveralIsNext();
        whoDoesNotFitIsPassedOver();
        bankruptsHaveNoDemands();
        grantedDemandLeavesTheQueue();
        vectorBecomesAGrant();
        Check.end("GrantEdgesTest");
    }

    private static LimitBank bankWithLimits(int capacity, int limit) {
        LimitBank bank = Check.bank(capacity, 100, 1, 1, 1);
        for (int t = 0; t < 3; t++) {
            Check.setLimits(bank, t, limit);
        }
        return bank;
    }

    private static void none(LimitBank bank, String why) {
        Check.due("grant(), " + why, bank.grant(), LimitBank.STATE);
        Check.due("grantAll(), " + why, bank.grantAll(), LimitBank.STATE);
        Check.due("plan(-1), " + why, bank.plan(-1), 0);
        Check.due("plan(0), " + why, bank.plan(0), LimitBank.NONE);
    }

    /** "Of each tenant only the first demand in the queue is looked at." */
    private static void onlyTheFirstDemandIsLookedAt() {
        LimitBank bank = bankWithLimits(50, 50);
        for (int t = 2; t >= 0; t--) {
            Check.demand(bank, t, "cpu 51", 5 - 2 * t);
            Check.demand(bank, t, "cpu 1", 6 - 2 * t);
        }
        none(bank, "where each second demand alone fits");
        Check.due("withdraw(1)", bank.withdraw(1), 5);
        Check.due("plan(-1)", bank.plan(-1), 1);
        Check.due("grant()", bank.grant(), 1);
        none(bank, "where the others' second demands alone fit");
    }

    /** "It fits if, for each resource, the use by the tenant would be at most its limit" */
    private static void limitsAreReachedAndNotPassed() {
        for (String name : NAMES) {
            LimitBank bank = bankWithLimits(99, 10);
            Check.use(bank, 1, "cpu 4 mem 4 net 4 disk 4");
            Check.demand(bank, 1, name + " 7", 1);
            none(bank, "with " + name + " one above the limit");
            bank.withdraw(1);
            Check.demand(bank, 1, name + " 6", 1);
            Check.due("plan(-1) with " + name + " at the limit", bank.plan(-1), 1);
            Check.due("grant() with " + name + " at the limit", bank.grant(), 1);
            Check.demand(bank, 1, name + " 1", 1);
            none(bank, "with all the limit of " + name + " in use");
        }
    }

    /** "and the use at most the capacity": the use by all the tenants. */
    private static void capacitiesAreReachedAndNotPassed() {
        for (String name : NAMES) {
            LimitBank bank = bankWithLimits(10, 50);
            Check.use(bank, 0, "cpu 1 mem 1 net 1 disk 1");
            Check.use(bank, 2, "cpu 3 mem 3 net 3 disk 3");
            Check.demand(bank, 1, name + " 7", 1);
            none(bank, "with " + name + " one above the capacity");
            bank.withdraw(1);
            Check.demand(bank, 1, name + " 6", 1);
            Check.due("plan(-1) with " + name + " at the capacity", bank.plan(-1), 1);
            Check.due("grant() with " + name + " at the capacity", bank.grant(), 1);
            Check.demand(bank, 0, name + " 1", 1);
            none(bank, "with all the capacity of " + name + " in use");
        }
    }

    /** The same sentence: 0 units are at most a limit and a capacity of 0. */
    private static void nothingNeedsNoCapacity() {
        for (int r = 0; r < 4; r++) {
            LimitBank bank = new LimitBank();
            bank.addTenant(1);
            Check.demand(bank, 0, NAMES[r] + " 1", 1);
            none(bank, "without limits and capacities");
            bank.setResource(r, false, 1);
            none(bank, "without limits");
            bank.setLimit(0, r, 1);
            Check.due("grant() of the only unit", bank.grant(), 0);
        }
    }

    /** "Next is the tenant with the least dominant share": one part in 10000 decides. */
    private static void leastShareIsNext() {
        LimitBank bank = bankWithLimits(100, 50);
        Check.use(bank, 0, "cpu 6");
        Check.use(bank, 1, "cpu 5");
        Check.use(bank, 2, "cpu 4");
        for (int t = 0; t < 3; t++) {
            Check.demand(bank, t, "disk 1", t + 1);
        }
        Check.due("plan(0)", bank.plan(0), 2);
        Check.due("grant()", bank.grant(), 2);
        Check.due("grant()", bank.grant(), 1);
        Check.due("grant()", bank.grant(), 0);
        LimitBank close = Check.bank(999, 0, 1, 1);
        close.setResource(1, false, 998);
        Check.setLimits(close, 0, 99);
        Check.setLimits(close, 1, 99);
        Check.use(close, 0, "mem 12");
        Check.use(close, 1, "cpu 12");
        Check.due("share of 0", close.tenant(0, 2), 120);
        Check.due("share of 1", close.tenant(1, 2), 120);
        close.setResource(1, false, 991);
        Check.due("share of 0", close.tenant(0, 2), 121);
        Check.demand(close, 0, "net 1", 1);
        Check.demand(close, 1, "net 1", 2);
        Check.due("grant() of the share of 120", close.grant(), 1);
    }

    /** The same sentence: wherever the least one stands among the tenants. */
    private static void leastShareOfAllIsNext() {
        int[][] uses = {{4, 5, 6}, {4, 6, 5}, {5, 4, 6}, {6, 4, 5}, {5, 6, 4}, {6, 5, 4}};
        for (int[] each : uses) {
            LimitBank bank = bankWithLimits(100, 50);
            for (int t = 0; t < 3; t++) {
                Check.use(bank, t, "cpu " + each[t]);
            }
            for (int t = 0; t < 3; t++) {
                Check.demand(bank, t, "disk 1", t + 1);
            }
            for (int share = 4; share <= 6; share++) {
                int served = bank.grant();
                Check.due("the use by the next one", bank.account(served, 0, 2), share);
            }
        }
    }

    /** The same sentence, for grantAll(): the first one in the queue need not be next. */
    private static void nextCanStandAnywhereInTheQueue() {
        for (int fits = 0; fits < 3; fits++) {
            LimitBank bank = bankWithLimits(100, 50);
            for (int t = 0; t < 3; t++) {
                Check.demand(bank, t, t == fits ? "net 50" : "net 51", t + 1);
            }
            Check.due("plan(-1)", bank.plan(-1), 1);
            Check.due("plan(0)", bank.plan(0), fits);
            Check.due("grantAll()", bank.grantAll(), 1);
            Check.due("granted(0, 4)", bank.granted(0, 4), fits);
            none(bank, "where the others do not fit");
        }
    }

    /** "of several the one with the least number": wherever their demands are in the queue. */
    private static void leastNumberOfSeveralIsNext() {
        LimitBank bank = bankWithLimits(100, 50);
        for (int t = 2; t >= 0; t--) {
            Check.demand(bank, t, "cpu 1", 3 - t);
        }
        for (int t = 0; t < 3; t++) {
            Check.due("plan(" + t + ")", bank.plan(t), t);
        }
        for (int t = 0; t < 3; t++) {
            Check.due("grant() of equal shares", bank.grant(), t);
        }
        Check.due("equal shares", bank.tenant(0, 2), bank.tenant(2, 2));
        Check.demand(bank, 2, "cpu 1", 1);
        Check.demand(bank, 1, "cpu 1", 2);
        Check.due("grant() of equal shares above 0", bank.grant(), 1);
    }

    /** "among those whose first demand fits." */
    private static void whoDoesNotFitIsPassedOver() {
        LimitBank bank = bankWithLimits(100, 50);
        Check.use(bank, 1, "cpu 9");
        Check.use(bank, 2, "cpu 8");
        Check.demand(bank, 0, "mem 51", 1);
        Check.demand(bank, 2, "mem 52", 2);
        Check.demand(bank, 1, "mem 1", 3);
        Check.due("plan(-1)", bank.plan(-1), 1);
        Check.due("grant() of the only one that fits", bank.grant(), 1);
        none(bank, "where no demand fits");
        Check.due("both demands stay", bank.count(3), 2);
    }

    /** "(Bankrupt tenants have no demands.)" */
    private static void bankruptsHaveNoDemands() {
        LimitBank bank = bankWithLimits(0, 50);
        bank.borrow(1, 0, 10);
        Check.type(bank, "cpu 1");
        for (int i = 1; i <= 9; i++) {
            Check.due("demand", bank.demand(i % 3), i);
        }
        Check.due("pass(1)", bank.pass(1), 1);
        Check.due("tenant(1, 5)", bank.tenant(1, 5), 0);
        Check.due("count(3)", bank.count(3), 6);
        for (int i = 0; i < 6; i++) {
            Check.due("demanded(" + i + ", 4)", bank.demanded(i, 4), i % 2 == 0 ? 2 : 0);
        }
        Check.due("demand(1)", bank.demand(1), LimitBank.STATE);
        Check.due("withdraw(1)", bank.withdraw(1), LimitBank.STATE);
    }

    /** "To grant means: the demand leaves the queue": the first, the last and the only one. */
    private static void grantedDemandLeavesTheQueue() {
        LimitBank bank = bankWithLimits(99, 50);
        bank.setLimit(1, 0, 2);
        Check.demand(bank, 0, "cpu 1", 1);
        Check.demand(bank, 1, "cpu 3", 2);
        Check.demand(bank, 2, "cpu 5", 3);
        Check.due("grant() of the first one", bank.grant(), 0);
        Check.due("demanded(0, 0)", bank.demanded(0, 0), 3);
        Check.due("demanded(1, 0)", bank.demanded(1, 0), 5);
        Check.due("grant() of the last one", bank.grant(), 2);
        Check.due("demanded(0, 0)", bank.demanded(0, 0), 3);
        Check.due("demanded(1, 0)", bank.demanded(1, 0), LimitBank.NONE);
        bank.setLimit(1, 0, 3);
        Check.due("grant() of the only one", bank.grant(), 1);
        Check.due("count(3)", bank.count(3), 0);
        Check.due("demanded(0, 0)", bank.demanded(0, 0), LimitBank.NONE);
    }

    /** "and its vector becomes a grant." */
    private static void vectorBecomesAGrant() {
        LimitBank bank = bankWithLimits(99, 99);
        Check.use(bank, 2, "disk 0 net 99 cpu 1");
        int[] want = {1, 0, 99, 0, 2};
        for (int what = 0; what <= 4; what++) {
            Check.due("granted(0, " + what + ")", bank.granted(0, what), want[what]);
        }
        Check.due("count(2)", bank.count(2), 1);
        Check.due("tenant(2, 4)", bank.tenant(2, 4), 1);
        Check.due("tenant(1, 4)", bank.tenant(1, 4), 0);
    }
}
