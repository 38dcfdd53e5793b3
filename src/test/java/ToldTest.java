/** Promises 20 (resource), 21 (tenant), 22 (account) and 28 (count). */
final class ToldTest {
    public static void main(String[] args) {
        resources();
        prices();
        shares();
        tenants();
        accounts();
        counts();
        Check.end("ToldTest");
    }

    private static void resources() {
        LimitBank bank = Check.bank(40, 30, 2, 3);
        bank.setLimit(0, 1, 9999);
        bank.setLimit(1, 1, 20);
        bank.borrow(0, 2, 5);
        bank.borrow(1, 2, 6);
        Check.demand(bank, 1, "mem 20", 1);
        bank.grant();
        bank.setLimit(0, 0, 7);
        bank.setLimit(1, 3, 8);
        Check.due("resource(0, 4)", bank.resource(0, 4), 7);
        Check.due("resource(3, 4)", bank.resource(3, 4), 8);
        int[] mem = {40, 30, 20, 5, 10019, 0};
        int[] net = {40, 19, 0, 1, 11, 11};
        for (int what = 0; what <= 5; what++) {
            Check.due("resource(1, " + what + ")", bank.resource(1, what), mem[what]);
            Check.due("resource(2, " + what + ")", bank.resource(2, what), net[what]);
        }
        int[][] wrong = {{-1, 0}, {4, 0}, {0, -1}, {0, 6}, {Integer.MIN_VALUE, 0},
            {Integer.MAX_VALUE, 4}, {0, Integer.MAX_VALUE}, {9, 9}};
        for (int[] each : wrong) {
            Check.due("resource(" + each[0] + ", " + each[1] + ")",
                    bank.resource(each[0], each[1]), LimitBank.BAD);
        }
    }

    private static void prices() {
        LimitBank bank = Check.bank(9, 0, 1);
        Check.setLimits(bank, 0, 99);
        for (int use = 0; use <= 9; use++) {
            Check.due("price at " + use + " of 9", bank.resource(0, 3), 1 + use);
            Check.demand(bank, 0, "cpu 1", 1);
            bank.grant();
            bank.withdraw(0);
        }
        bank.setResource(0, false, 999);
        Check.due("price at 9 of 999", bank.resource(0, 3), 1);
        bank.setResource(0, false, 81);
        Check.due("price at 9 of 81", bank.resource(0, 3), 2);
        bank.setResource(0, false, 82);
        Check.due("price at 9 of 82", bank.resource(0, 3), 1);
        bank.setResource(0, false, 10);
        Check.due("price at 9 of 10", bank.resource(0, 3), 9);
        bank.setResource(1, false, 0);
        Check.due("price without a capacity", bank.resource(1, 3), 10);
    }

    private static void shares() {
        LimitBank bank = new LimitBank();
        bank.addTenant(3);
        Check.due("share without capacities", bank.tenant(0, 2), 0);
        bank.setResource(1, false, 70);
        bank.setResource(2, false, 7);
        Check.setLimits(bank, 0, 99);
        Check.demand(bank, 0, "mem 20 net 1", 1);
        bank.grant();
        Check.due("share of mem", bank.tenant(0, 2), 952);
        Check.demand(bank, 0, "net 2", 1);
        bank.grant();
        Check.due("share of net", bank.tenant(0, 2), 1428);
        bank.setWeight(0, 1);
        Check.due("share with the weight 1", bank.tenant(0, 2), 4285);
        bank.setResource(2, false, 3);
        Check.due("share of all of it", bank.tenant(0, 2), 10000);
        bank.setResource(0, false, 1);
        Check.demand(bank, 0, "cpu 1", 1);
        bank.grant();
        bank.release(1);
        Check.due("share of the one unit that there is", bank.tenant(0, 2), 10000);
        bank.release(2);
        Check.due("share of a third", bank.tenant(0, 2), 3333);
    }

    private static void tenants() {
        LimitBank bank = Check.bank(30, 30, 2, 5);
        Check.setLimits(bank, 1, 30);
        Check.demand(bank, 1, "cpu 3", 1);
        Check.demand(bank, 1, "cpu 3", 2);
        bank.grantAll();
        Check.demand(bank, 1, "cpu 3", 1);
        bank.pass(2);
        int[] want = {5, 50, 400, 1, 2, 1, LimitBank.NONE, LimitBank.NONE};
        for (int what = 0; what < want.length; what++) {
            Check.due("tenant(1, " + what + ")", bank.tenant(1, what), want[what]);
        }
        int[][] wrong = {{-1, 0}, {2, 0}, {6, 0}, {0, -1}, {0, 8}, {Integer.MAX_VALUE, 1},
            {Integer.MIN_VALUE, 1}, {0, Integer.MIN_VALUE}, {2, 8}};
        for (int[] each : wrong) {
            Check.due("tenant(" + each[0] + ", " + each[1] + ")", bank.tenant(each[0], each[1]),
                    LimitBank.BAD);
        }
    }

    private static void accounts() {
        LimitBank bank = Check.bank(30, 30, 2, 5);
        bank.setLimit(1, 2, 20);
        bank.borrow(1, 2, 7);
        Check.demand(bank, 1, "net 11", 1);
        bank.grant();
        int[] want = {27, 7, 11, 16};
        for (int what = 0; what < want.length; what++) {
            Check.due("account(1, 2, " + what + ")", bank.account(1, 2, what), want[what]);
            Check.due("account(0, 2, " + what + ")", bank.account(0, 2, what), 0);
            Check.due("account(1, 1, " + what + ")", bank.account(1, 1, what), 0);
        }
        int[][] wrong = {{-1, 0, 0}, {2, 0, 0}, {0, -1, 0}, {0, 4, 0}, {0, 0, -1}, {0, 0, 4},
            {Integer.MAX_VALUE, 0, 0}, {0, Integer.MIN_VALUE, 0}, {0, 0, Integer.MAX_VALUE}};
        for (int[] each : wrong) {
            Check.due("account(" + each[0] + ", " + each[1] + ", " + each[2] + ")",
                    bank.account(each[0], each[1], each[2]), LimitBank.BAD);
        }
    }

    private static void counts() {
        LimitBank bank = Check.bank(0, 30, 1, 1);
        bank.setRest(50);
        bank.borrow(0, 0, 10);
        bank.pass(7);
        bank.setResource(1, false, 50);
        bank.setLimit(1, 1, 40);
        Check.demand(bank, 1, "mem 3", 1);
        Check.due("demand(1)", bank.demand(1), 2);
        Check.due("demand(1)", bank.demand(1), 3);
        bank.grant();
        bank.grant();
        bank.release(0);
        int[] want = {7, 2, 1, 1, 1, 2, 50, 1, 8, 5};
        for (int what = 0; what < want.length; what++) {
            Check.due("count(" + what + ")", bank.count(what), want[what]);
        }
        int[] wrong = {-1, 10, Integer.MIN_VALUE, Integer.MAX_VALUE};
        for (int what : wrong) {
            Check.due("count(" + what + ")", bank.count(what), LimitBank.BAD);
        }
    }
}
