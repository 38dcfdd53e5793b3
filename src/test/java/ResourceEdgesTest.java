import java.util.Arrays;

/** The sentences of "Resources, tenants" and "Prices, shares" that name a bound, a test each. */
final class ResourceEdgesTest {
    private static final int[] NO_RESOURCES = {Integer.MIN_VALUE, -1, 4, Integer.MAX_VALUE};
    private static final String[] NAMES = {"cpu", "mem", "net", "disk"};

    public static void main(String[] args) {
        resourcesAreFour();
        namesAreNumbered();
        capacitiesAndFundsAreZeroAtFirst();
        capacitiesAndFundsHaveBounds();
        unitsOfVectorsHaveBounds();
        tenantsAreSixAtMost();
        tenantsAreNumberedFromZero();
        weightsHaveBounds();
        limitsHaveBounds();
        pointsCanBeNegative();
        tenantsAreSolventAtFirst();
        tenantsHaveNothingAtFirst();
        grantsAreFortyAtMost();
        grantsAreNumberedFromZero();
        grantNumbersFollowTheLatestEver();
        grantNumbersAreRestoredByUndo();
        usesAreSumsOfGrants();
        freePartsFallToZero();
        demandsAreTwentyFourAtMost();
        demandsWaitInTheirOrder();
        pricesAreRoundedDown();
        pricesRunFromOneToTen();
        priceIsTenWithoutCapacity();
        sharesAreRoundedDown();
        shareIsTheGreatestOne();
        resourcesWithoutCapacityHaveNoShare();
        Check.end("ResourceEdgesTest");
    }

    /** "There are four resources": no call takes another one. */
    private static void resourcesAreFour() {
        LimitBank bank = Check.bank(90, 90, 9);
        Check.setLimits(bank, 0, 50);
        long before = bank.digest();
        for (int r : NO_RESOURCES) {
            String of = " of resource " + r;
            Check.due("setResource capacity" + of, bank.setResource(r, false, 5), LimitBank.BAD);
            Check.due("setResource fund" + of, bank.setResource(r, true, 5), LimitBank.BAD);
            Check.due("setLimit" + of, bank.setLimit(0, r, 5), LimitBank.BAD);
            Check.due("exchange" + of, bank.exchange(0, r, 1, 5), LimitBank.BAD);
            Check.due("exchange for one" + of, bank.exchange(0, 1, r, 5), LimitBank.BAD);
            Check.due("borrow" + of, bank.borrow(0, r, 5), LimitBank.BAD);
            Check.due("repay" + of, bank.repay(0, r, 5), LimitBank.BAD);
            Check.due("resource" + of, bank.resource(r, 0), LimitBank.BAD);
            Check.due("account" + of, bank.account(0, r, 0), LimitBank.BAD);
            Check.due("worth" + of, bank.worth(0, r), LimitBank.BAD);
        }
        Check.due("digest() after calls for no resource", bank.digest(), before);
        for (int r = 0; r < 4; r++) {
            String of = " of resource " + r;
            Check.due("setResource capacity" + of, bank.setResource(r, false, 80), 90);
            Check.due("setResource fund" + of, bank.setResource(r, true, 80), r < 2 ? 90 : 85);
            Check.due("setLimit" + of, bank.setLimit(0, r, 60), r < 2 ? 50 : 55);
            Check.due("exchange" + of, bank.exchange(0, r, 3 - r, 5), 5);
            Check.due("borrow" + of, bank.borrow(0, r, 5), 5);
            Check.due("repay" + of, bank.repay(0, r, 5), 0);
            Check.due("resource" + of, bank.resource(r, 0), 80);
        }
        int[] limits = {55, 55, 50, 50};
        for (int r = 0; r < 4; r++) {
            Check.due("account of resource " + r, bank.account(0, r, 0), limits[r] + 5);
        }
    }

    /** "cpu (0), mem (1), net (2) and disk (3)": the last one is none that another name means. */
    private static void namesAreNumbered() {
        LimitBank bank = Check.bank(0, 0, 1);
        for (int name = 0; name < 4; name++) {
            Check.demand(bank, 0, NAMES[name] + " 7", name + 1);
            for (int r = 0; r < 4; r++) {
                Check.due("units " + r + " of \"" + NAMES[name] + " 7\"", bank.demanded(name, r),
                        r == name ? 7 : 0);
            }
        }
    }

    /** "both are 0 at first." */
    private static void capacitiesAndFundsAreZeroAtFirst() {
        LimitBank bank = new LimitBank();
        for (int r = 0; r < 4; r++) {
            Check.due("the first capacity", bank.resource(r, 0), 0);
            Check.due("the first fund", bank.resource(r, 1), 0);
        }
    }

    /** "Each of them has a capacity, 0 to 999, and the bank a fund of limits of it, 0 to 999" */
    private static void capacitiesAndFundsHaveBounds() {
        for (int r = 0; r < 4; r++) {
            for (boolean fund : new boolean[] {false, true}) {
                LimitBank bank = new LimitBank();
                String of = "setResource(" + r + ", " + fund + ", ";
                Check.due(of + "-1)", bank.setResource(r, fund, -1), LimitBank.BAD);
                Check.due(of + "1000)", bank.setResource(r, fund, 1000), LimitBank.BAD);
                Check.due(of + "999)", bank.setResource(r, fund, 999), 0);
                Check.due("the greatest value", bank.resource(r, fund ? 1 : 0), 999);
                Check.due("the value of the other kind", bank.resource(r, fund ? 0 : 1), 0);
                Check.due(of + "0)", bank.setResource(r, fund, 0), 999);
                Check.due("the least value", bank.resource(r, fund ? 1 : 0), 0);
            }
        }
    }

    /** "A vector is a number of units, 0 to 99, of each resource." */
    private static void unitsOfVectorsHaveBounds() {
        LimitBank bank = Check.bank(99, 0, 1);
        Check.setLimits(bank, 0, 99);
        Check.use(bank, 0, "cpu 99 mem 0 net 1 disk 98");
        int[] want = {99, 0, 1, 98};
        for (int r = 0; r < 4; r++) {
            Check.due("units " + r, bank.granted(0, r), want[r]);
        }
        Check.type(bank, "cpu 100");
        Check.due("fault() of 100 units", bank.fault(), 6);
    }

    /** "There are at most 6 tenants" */
    private static void tenantsAreSixAtMost() {
        LimitBank bank = Check.bank(0, 0, 1, 1, 1, 1, 1);
        Check.due("the sixth tenant", bank.addTenant(9), 5);
        Check.due("the seventh tenant", bank.addTenant(9), LimitBank.FULL);
        Check.due("the seventh tenant, again", bank.addTenant(1), LimitBank.FULL);
        Check.due("the number of tenants", bank.count(1), 6);
        Check.due("the weight of the last one", bank.tenant(5, 0), 9);
        Check.due("a tenant behind the last one", bank.tenant(6, 0), LimitBank.BAD);
    }

    /** "numbered from 0": a number that no tenant has is BAD in every call. */
    private static void tenantsAreNumberedFromZero() {
        for (int tenants = 0; tenants <= 6; tenants++) {
            int[] weights = new int[tenants];
            Arrays.fill(weights, 2);
            LimitBank bank = Check.bank(9, 9, weights);
            noTenant(bank, tenants);
            noTenant(bank, -1);
            noTenant(bank, 6);
            noTenant(bank, Integer.MAX_VALUE);
            noTenant(bank, Integer.MIN_VALUE);
            Check.due("addTenant", bank.addTenant(2), tenants < 6 ? tenants : LimitBank.FULL);
            Check.due("tenant(0, 0)", bank.tenant(0, 0), 2);
            Check.due("ruin(0)", bank.ruin(0), LimitBank.NONE);
            Check.due("account(0, 3, 0)", bank.account(0, 3, 0), 0);
        }
    }

    private static void noTenant(LimitBank bank, int t) {
        String of = " of tenant " + t + ", where there are " + bank.count(1);
        Check.type(bank, "cpu 1");
        long before = bank.digest();
        Check.due("setWeight" + of, bank.setWeight(t, 1), LimitBank.BAD);
        Check.due("setLimit" + of, bank.setLimit(t, 0, 1), LimitBank.BAD);
        Check.due("demand" + of, bank.demand(t), LimitBank.BAD);
        Check.due("withdraw" + of, bank.withdraw(t), LimitBank.BAD);
        Check.due("exchange" + of, bank.exchange(t, 0, 1, 1), LimitBank.BAD);
        Check.due("borrow" + of, bank.borrow(t, 0, 1), LimitBank.BAD);
        Check.due("repay" + of, bank.repay(t, 0, 1), LimitBank.BAD);
        Check.due("tenant" + of, bank.tenant(t, 0), LimitBank.BAD);
        Check.due("account" + of, bank.account(t, 0, 0), LimitBank.BAD);
        Check.due("worth" + of, bank.worth(t, 0), LimitBank.BAD);
        Check.due("ruin" + of, bank.ruin(t), LimitBank.BAD);
        Check.due("digest() after calls" + of, bank.digest(), before);
    }

    /** "A tenant has a weight, 1 to 9" */
    private static void weightsHaveBounds() {
        LimitBank bank = new LimitBank();
        Check.due("addTenant(0)", bank.addTenant(0), LimitBank.BAD);
        Check.due("addTenant(10)", bank.addTenant(10), LimitBank.BAD);
        Check.due("count(1)", bank.count(1), 0);
        Check.due("addTenant(1)", bank.addTenant(1), 0);
        Check.due("addTenant(9)", bank.addTenant(9), 1);
        Check.due("setWeight(0, 0)", bank.setWeight(0, 0), LimitBank.BAD);
        Check.due("setWeight(1, 10)", bank.setWeight(1, 10), LimitBank.BAD);
        Check.due("setWeight(0, 9)", bank.setWeight(0, 9), 1);
        Check.due("setWeight(1, 1)", bank.setWeight(1, 1), 9);
        Check.due("the greatest weight", bank.tenant(0, 0), 9);
        Check.due("the least weight", bank.tenant(1, 0), 1);
    }

    /** "for each resource a limit, 0 to 9999": by whatever call the limit changes. */
    private static void limitsHaveBounds() {
        for (int r = 0; r < 4; r++) {
            LimitBank bank = Check.bank(9, 100, 2);
            bank.setLimit(0, 3 - r, 100);
            Check.due("setLimit to -1", bank.setLimit(0, r, -1), LimitBank.BAD);
            Check.due("setLimit to 10000", bank.setLimit(0, r, 10000), LimitBank.BAD);
            Check.due("setLimit to 9999", bank.setLimit(0, r, 9999), 0);
            Check.due("borrow above 9999", bank.borrow(0, r, 1), LimitBank.FULL);
            Check.due("exchange above 9999", bank.exchange(0, 3 - r, r, 1), LimitBank.FULL);
            Check.due("setLimit to 9997", bank.setLimit(0, r, 9997), 9999);
            Check.due("borrow up to 9998", bank.borrow(0, r, 1), 1);
            Check.due("exchange up to 9999", bank.exchange(0, 3 - r, r, 1), 1);
            Check.due("the greatest limit", bank.account(0, r, 0), 9999);
            Check.due("repay", bank.repay(0, r, 1), 0);
            Check.due("setLimit to 0", bank.setLimit(0, r, 0), 9998);
            Check.due("the least limit", bank.account(0, r, 0), 0);
        }
    }

    /** "points, which can be negative": a loan at the price 10 costs more than 5 points. */
    private static void pointsCanBeNegative() {
        LimitBank bank = Check.bank(0, 100, 1);
        bank.borrow(0, 3, 1);
        bank.pass(1);
        Check.due("negative points", bank.tenant(0, 1), -6);
        Check.due("no bankrupt", bank.tenant(0, 3), 1);
    }

    /** "and is solvent (at first) or bankrupt." */
    private static void tenantsAreSolventAtFirst() {
        LimitBank bank = Check.bank(0, 0, 1, 2, 3, 4, 5, 9);
        for (int t = 0; t < 6; t++) {
            Check.due("solvent at first", bank.tenant(t, 3), 1);
            Check.due("no place in the queue at first", bank.tenant(t, 6), LimitBank.NONE);
        }
        Check.due("no bankrupts at first", bank.count(4), 0);
    }

    /** "At first limits, loans and points are 0.": also of a tenant that comes late. */
    private static void tenantsHaveNothingAtFirst() {
        LimitBank bank = Check.bank(50, 500, 9);
        Check.setLimits(bank, 0, 50);
        bank.borrow(0, 0, 9);
        bank.pass(9);
        for (int t = 1; t < 6; t++) {
            Check.due("addTenant", bank.addTenant(t), t);
            Check.due("points at first", bank.tenant(t, 1), 0);
            for (int r = 0; r < 4; r++) {
                Check.due("limit at first", bank.account(t, r, 0), 0);
                Check.due("loan at first", bank.account(t, r, 1), 0);
            }
        }
    }

    static LimitBank withFortyGrants() {
        LimitBank bank = Check.bank(99, 0, 1);
        Check.setLimits(bank, 0, 99);
        for (int i = 0; i < 40; i++) {
            Check.use(bank, 0, "mem 1");
        }
        return bank;
    }

    /** "There are at most 40 grants." */
    private static void grantsAreFortyAtMost() {
        LimitBank bank = withFortyGrants();
        Check.due("40 grants", bank.count(2), 40);
        Check.demand(bank, 0, "mem 1", 1);
        Check.due("the grant 41", bank.grant(), LimitBank.FULL);
        Check.due("the grant 41 of all", bank.grantAll(), LimitBank.FULL);
        Check.due("the plan of it", bank.plan(-1), 0);
        Check.due("release(39)", bank.release(39), 39);
        Check.due("the grant 40 again", bank.grant(), 0);
        Check.due("40 grants again", bank.count(2), 40);
    }

    /** "it has a number, from 0" */
    private static void grantsAreNumberedFromZero() {
        LimitBank bank = withFortyGrants();
        for (int g = 0; g < 40; g++) {
            Check.due("granted(" + g + ", 1)", bank.granted(g, 1), 1);
        }
        Check.due("granted(40, 1)", bank.granted(40, 1), LimitBank.NONE);
        Check.due("granted(-1, 1)", bank.granted(-1, 1), LimitBank.BAD);
    }

    /** "one more than that of the latest grant that there ever was": also if it is gone. */
    private static void grantNumbersFollowTheLatestEver() {
        LimitBank bank = Check.bank(99, 100, 1);
        Check.setLimits(bank, 0, 99);
        for (int g = 0; g < 3; g++) {
            Check.due("count(5)", bank.count(5), g);
            Check.use(bank, 0, "mem 1");
            Check.due("release of the only grant", bank.release(g), 0);
        }
        Check.use(bank, 0, "mem 1");
        bank.setResource(3, false, 0);
        bank.borrow(0, 3, 10);
        Check.due("pass(1): the grants vanish", bank.pass(1), 1);
        Check.due("count(2)", bank.count(2), 0);
        Check.due("count(5)", bank.count(5), 4);
    }

    /** "(undo() restores the number that the next one gets, too)" */
    private static void grantNumbersAreRestoredByUndo() {
        LimitBank bank = Check.bank(99, 0, 1);
        Check.setLimits(bank, 0, 99);
        Check.use(bank, 0, "mem 1");
        Check.use(bank, 0, "mem 2");
        bank.release(1);
        bank.undo();
        Check.due("count(5) after release and undo", bank.count(5), 2);
        bank.undo();
        Check.due("count(5) after undo of a grant", bank.count(5), 1);
        Check.due("grant()", bank.grant(), 0);
        Check.due("the number 1 again", bank.granted(1, 1), 2);
        Check.due("no number 2", bank.granted(2, 1), LimitBank.NONE);
    }

    /** "The use of a resource by a tenant is the sum of its units in all grants of the tenant" */
    private static void usesAreSumsOfGrants() {
        LimitBank bank = Check.bank(500, 0, 1, 1);
        Check.setLimits(bank, 0, 500);
        Check.setLimits(bank, 1, 500);
        for (int r = 0; r < 4; r++) {
            Check.due("no use", bank.resource(r, 2) + bank.account(0, r, 2), 0);
        }
        Check.use(bank, 0, "cpu 99 disk 1");
        Check.use(bank, 1, "cpu 98 disk 2");
        Check.use(bank, 1, "cpu 97 disk 4");
        Check.due("use by 0", bank.account(0, 0, 2), 99);
        Check.due("use by 1", bank.account(1, 0, 2), 195);
        Check.due("use by all", bank.resource(0, 2), 294);
        Check.due("use of disk", bank.resource(3, 2), 7);
        Check.due("use of mem", bank.resource(1, 2), 0);
        Check.demand(bank, 0, "cpu 50", 1);
        Check.due("a demand is no use", bank.resource(0, 2), 294);
        bank.release(1);
        bank.release(2);
        Check.due("no use by 1 left", bank.account(1, 0, 2), 0);
        Check.due("use by 0 left", bank.resource(0, 2), 99);
    }

    /** "The free part of a limit is the limit less the use by the tenant." */
    private static void freePartsFallToZero() {
        LimitBank bank = Check.bank(99, 50, 9, 1);
        bank.setLimit(0, 2, 20);
        bank.setLimit(1, 2, 30);
        Check.use(bank, 1, "net 30");
        Check.due("a free part of 0", bank.account(1, 2, 3), 0);
        Check.due("a free part of all", bank.account(0, 2, 3), 20);
        bank.borrow(0, 2, 5);
        Check.use(bank, 0, "net 24");
        Check.due("a free part of a borrowed unit", bank.account(0, 2, 3), 1);
        bank.release(1);
        Check.due("all the limit, with the loan", bank.account(0, 2, 3), 25);
    }

    /** "There are at most 24 demands." */
    private static void demandsAreTwentyFourAtMost() {
        LimitBank bank = Check.bank(9, 0, 1, 1);
        Check.type(bank, "cpu 1");
        for (int i = 1; i <= 24; i++) {
            Check.due("demand " + i, bank.demand(i % 2), i);
        }
        Check.due("demand 25", bank.demand(0), LimitBank.FULL);
        Check.due("count(3)", bank.count(3), 24);
        bank.withdraw(1);
        Check.due("demand 24 again", bank.demand(0), 24);
        Check.due("demand 25 again", bank.demand(1), LimitBank.FULL);
    }

    /** "the demands wait in a queue, in the order in which they came." */
    private static void demandsWaitInTheirOrder() {
        LimitBank bank = Check.bank(99, 0, 1, 1);
        Check.setLimits(bank, 1, 99);
        for (int i = 1; i <= 24; i++) {
            Check.demand(bank, i % 2, "cpu " + i, i);
        }
        Check.due("withdraw(1)", bank.withdraw(1), 23);
        Check.due("grant()", bank.grant(), 1);
        int[] left = {2, 4, 5, 6, 7, 8, 9, 10, 11, 12, 13, 14, 15, 16, 17, 18, 19, 20, 21, 22, 23,
            24};
        for (int i = 0; i < left.length; i++) {
            Check.due("demanded(" + i + ", 0)", bank.demanded(i, 0), left[i]);
            Check.due("demanded(" + i + ", 4)", bank.demanded(i, 4), left[i] % 2);
        }
        Check.due("demanded(22, 0)", bank.demanded(22, 0), LimitBank.NONE);
    }

    /** "The price of a resource is 1 + 9 * (use) / (capacity), rounded down" */
    private static void pricesAreRoundedDown() {
        LimitBank bank = Check.bank(999, 0, 1);
        Check.setLimits(bank, 0, 999);
        Check.use(bank, 0, "cpu 10");
        int[] capacities = {999, 91, 90, 89, 46, 45, 44, 12, 11, 10};
        int[] prices = {1, 1, 2, 2, 2, 3, 3, 8, 9, 10};
        for (int i = 0; i < capacities.length; i++) {
            bank.setResource(0, false, capacities[i]);
            Check.due("price of 10 of " + capacities[i], bank.resource(0, 3), prices[i]);
        }
        Check.due("price of the others", bank.resource(1, 3), 1);
    }

    /** "from 1 to 10" */
    private static void pricesRunFromOneToTen() {
        for (int capacity : new int[] {1, 2, 98, 99}) {
            LimitBank bank = Check.bank(capacity, 0, 1);
            Check.setLimits(bank, 0, 99);
            Check.due("price of nothing used", bank.resource(1, 3), 1);
            Check.use(bank, 0, "mem " + capacity);
            Check.due("price of all used", bank.resource(1, 3), 10);
            bank.setResource(1, false, capacity + 1);
            int price = 1 + 9 * capacity / (capacity + 1);
            Check.due("price of all but one used", bank.resource(1, 3), price);
        }
    }

    /** "it is 10 if the capacity is 0." */
    private static void priceIsTenWithoutCapacity() {
        LimitBank bank = new LimitBank();
        for (int r = 0; r < 4; r++) {
            Check.due("price at first", bank.resource(r, 3), 10);
            bank.setResource(r, false, 1);
            Check.due("price with a capacity of 1", bank.resource(r, 3), 1);
            bank.setResource(r, false, 0);
            Check.due("price without a capacity again", bank.resource(r, 3), 10);
        }
    }

    /** "10000 * (its use) / (capacity * weight), rounded down" */
    private static void sharesAreRoundedDown() {
        LimitBank bank = Check.bank(999, 0, 9, 1);
        Check.setLimits(bank, 0, 999);
        Check.due("share of nothing", bank.tenant(0, 2), 0);
        Check.use(bank, 0, "net 1");
        Check.due("10000 / 8991", bank.tenant(0, 2), 1);
        bank.setWeight(0, 1);
        Check.due("10000 / 999", bank.tenant(0, 2), 10);
        bank.setWeight(0, 3);
        bank.setResource(2, false, 1);
        Check.due("10000 / 3", bank.tenant(0, 2), 3333);
        bank.setResource(2, false, 999);
        bank.release(0);
        for (int i = 0; i < 9; i++) {
            Check.use(bank, 0, "net 99");
        }
        Check.due("8910000 / 2997", bank.tenant(0, 2), 2972);
        bank.setWeight(0, 1);
        bank.setResource(2, false, 891);
        Check.due("the share of all there is", bank.tenant(0, 2), 10000);
        Check.due("the share of the other one", bank.tenant(1, 2), 0);
    }

    /** "is the greatest one of the numbers": of whatever resource, and by its own use alone. */
    private static void shareIsTheGreatestOne() {
        for (int r = 0; r < 4; r++) {
            LimitBank bank = Check.bank(100, 0, 1, 1);
            Check.setLimits(bank, 0, 99);
            Check.setLimits(bank, 1, 99);
            Check.use(bank, 0, "cpu 5 mem 5 net 5 disk 5");
            Check.use(bank, 1, "cpu 60 mem 60 net 60 disk 60");
            Check.use(bank, 0, NAMES[r] + " 2");
            Check.due("the greatest share is of " + NAMES[r], bank.tenant(0, 2), 700);
            bank.setResource((r + 1) % 4, false, 66);
            Check.due("a lesser capacity counts", bank.tenant(0, 2), 757);
        }
    }

    /** "over all resources with a capacity above 0; 0 if there are none." */
    private static void resourcesWithoutCapacityHaveNoShare() {
        LimitBank bank = new LimitBank();
        bank.addTenant(1);
        Check.setLimits(bank, 0, 9);
        Check.due("share without any capacity", bank.tenant(0, 2), 0);
        for (int r = 0; r < 4; r++) {
            bank.setResource(r, false, 4);
            Check.use(bank, 0, NAMES[r] + " 1");
            Check.due("share of " + NAMES[r] + " alone", bank.tenant(0, 2), 2500);
            bank.release(2 * r);
            bank.setResource(r, false, 0);
            Check.due("share without it again", bank.tenant(0, 2), 0);
            bank.setResource(r, false, 1);
            Check.use(bank, 0, NAMES[r] + " 1");
            Check.due("share of the least capacity", bank.tenant(0, 2), 10000);
            bank.release(bank.count(5) - 1);
            bank.setResource(r, false, 0);
        }
    }
}
