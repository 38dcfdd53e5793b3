/** Promises 5 (setResource), 6 (setRest), 7 (addTenant), 8 (setWeight) and 9 (setLimit). */
final class SettingsTest {
    public static void main(String[] args) {
        resources();
        capacityAndUse();
        rests();
        tenants();
        weights();
        limits();
        limitsOfLoansAndUses();
        Check.end("SettingsTest");
    }

    private static void resources() {
        LimitBank bank = new LimitBank();
        for (int r = 0; r < 4; r++) {
            Check.due("setResource capacity", bank.setResource(r, false, 10 + r), 0);
            Check.due("setResource fund", bank.setResource(r, true, 20 + r), 0);
        }
        for (int r = 0; r < 4; r++) {
            Check.due("capacity", bank.resource(r, 0), 10 + r);
            Check.due("fund", bank.resource(r, 1), 20 + r);
        }
        Check.due("setResource(0, false, 999)", bank.setResource(0, false, 999), 10);
        Check.due("setResource(0, true, 999)", bank.setResource(0, true, 999), 20);
        Check.due("setResource(0, false, 0)", bank.setResource(0, false, 0), 999);
        Check.due("setResource(0, true, 0)", bank.setResource(0, true, 0), 999);
        long before = bank.digest();
        int[][] wrong = {{-1, 0}, {4, 0}, {0, -1}, {0, 1000}, {Integer.MIN_VALUE, 5},
            {Integer.MAX_VALUE, 5}, {2, Integer.MAX_VALUE}, {2, Integer.MIN_VALUE}};
        for (int[] each : wrong) {
            Check.refused(bank, before, "setResource capacity " + each[0] + " " + each[1],
                    bank.setResource(each[0], false, each[1]), LimitBank.BAD);
            Check.refused(bank, before, "setResource fund " + each[0] + " " + each[1],
                    bank.setResource(each[0], true, each[1]), LimitBank.BAD);
        }
    }

    private static void capacityAndUse() {
        LimitBank bank = Check.bank(20, 0, 1);
        Check.setLimits(bank, 0, 50);
        Check.demand(bank, 0, "mem 7", 1);
        bank.grant();
        long before = bank.digest();
        Check.refused(bank, before, "capacity 6", bank.setResource(1, false, 6), LimitBank.STATE);
        Check.refused(bank, before, "value 1000", bank.setResource(1, false, 1000), LimitBank.BAD);
        Check.due("fund 6", bank.setResource(1, true, 6), 0);
        Check.due("capacity 7", bank.setResource(1, false, 7), 20);
        Check.due("capacity of another one", bank.setResource(0, false, 0), 20);
    }

    private static void rests() {
        LimitBank bank = new LimitBank();
        Check.due("setRest(1)", bank.setRest(1), 3);
        Check.due("setRest(99)", bank.setRest(99), 1);
        Check.due("setRest(99) again", bank.setRest(99), 99);
        long before = bank.digest();
        int[] wrong = {0, 100, -1, Integer.MIN_VALUE, Integer.MAX_VALUE};
        for (int ticks : wrong) {
            Check.refused(bank, before, "setRest(" + ticks + ")", bank.setRest(ticks),
                    LimitBank.BAD);
        }
    }

    private static void tenants() {
        LimitBank bank = new LimitBank();
        long none = bank.digest();
        int[] wrong = {0, 10, -1, Integer.MIN_VALUE, Integer.MAX_VALUE};
        for (int weight : wrong) {
            Check.refused(bank, none, "addTenant(" + weight + ")", bank.addTenant(weight),
                    LimitBank.BAD);
        }
        int[] weights = {1, 9, 2, 3, 4, 5};
        for (int t = 0; t < weights.length; t++) {
            Check.due("addTenant", bank.addTenant(weights[t]), t);
        }
        for (int t = 0; t < weights.length; t++) {
            Check.due("weight", bank.tenant(t, 0), weights[t]);
            Check.due("points", bank.tenant(t, 1), 0);
            Check.due("solvent", bank.tenant(t, 3), 1);
            for (int r = 0; r < 4; r++) {
                Check.due("limit", bank.account(t, r, 0), 0);
                Check.due("loan", bank.account(t, r, 1), 0);
            }
        }
        long before = bank.digest();
        Check.refused(bank, before, "a seventh tenant", bank.addTenant(1), LimitBank.FULL);
        Check.refused(bank, before, "a bad seventh one", bank.addTenant(0), LimitBank.BAD);
        bank.undo();
        Check.due("count(1) after undo", bank.count(1), 5);
        Check.due("addTenant(7) after undo", bank.addTenant(7), 5);
        Check.due("weight after undo", bank.tenant(5, 0), 7);
    }

    private static void weights() {
        LimitBank bank = Check.bank(10, 10, 3, 4);
        Check.due("setWeight(1, 9)", bank.setWeight(1, 9), 4);
        Check.due("setWeight(1, 1)", bank.setWeight(1, 1), 9);
        Check.due("weight of the other one", bank.tenant(0, 0), 3);
        long before = bank.digest();
        int[][] wrong = {{2, 1}, {-1, 1}, {0, 0}, {0, 10}, {Integer.MAX_VALUE, 1},
            {Integer.MIN_VALUE, 1}, {0, Integer.MAX_VALUE}, {6, 1}};
        for (int[] each : wrong) {
            Check.refused(bank, before, "setWeight(" + each[0] + ", " + each[1] + ")",
                    bank.setWeight(each[0], each[1]), LimitBank.BAD);
        }
        bank.borrow(0, 0, 10);
        Check.due("setWeight below what the loans need", bank.setWeight(0, 1), 3);
    }

    private static void limits() {
        LimitBank bank = new LimitBank();
        bank.addTenant(1);
        bank.addTenant(1);
        Check.due("setLimit(0, 0, 9999)", bank.setLimit(0, 0, 9999), 0);
        Check.due("setLimit(0, 0, 0)", bank.setLimit(0, 0, 0), 9999);
        Check.due("setLimit(1, 3, 5)", bank.setLimit(1, 3, 5), 0);
        Check.due("account(1, 3, 0)", bank.account(1, 3, 0), 5);
        Check.due("account(0, 3, 0)", bank.account(0, 3, 0), 0);
        Check.due("account(1, 2, 0)", bank.account(1, 2, 0), 0);
        long before = bank.digest();
        int[][] wrong = {{-1, 0, 1}, {2, 0, 1}, {0, -1, 1}, {0, 4, 1}, {0, 0, -1}, {0, 0, 10000},
            {Integer.MIN_VALUE, 0, 0}, {0, Integer.MAX_VALUE, 0}, {0, 0, Integer.MIN_VALUE}};
        for (int[] each : wrong) {
            Check.refused(bank, before, "setLimit(" + each[0] + ", " + each[1] + ", " + each[2]
                    + ")", bank.setLimit(each[0], each[1], each[2]), LimitBank.BAD);
        }
    }

    private static void limitsOfLoansAndUses() {
        LimitBank bank = Check.bank(50, 100, 2);
        Check.setLimits(bank, 0, 10);
        Check.demand(bank, 0, "cpu 8", 1);
        bank.grant();
        Check.due("borrow(0, 1, 9)", bank.borrow(0, 1, 9), 9);
        long before = bank.digest();
        Check.refused(bank, before, "a limit below the use", bank.setLimit(0, 0, 7),
                LimitBank.STATE);
        Check.refused(bank, before, "a limit below the loan", bank.setLimit(0, 1, 8),
                LimitBank.STATE);
        Check.due("a limit as the use", bank.setLimit(0, 0, 8), 10);
        Check.due("a limit as the loan", bank.setLimit(0, 1, 9), 19);
    }
}
