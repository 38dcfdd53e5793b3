/** Promises 15 (exchange), 16 (borrow), 17 (repay) and 26 (worth). */
final class TradeTest {
    public static void main(String[] args) {
        exchanges();
        exchangeErrors();
        exchangeKeepsLoansAndUses();
        exchangeLimitIsFull();
        fundsOverflow();
        loans();
        loanErrors();
        repayments();
        worths();
        bankruptsDoNotTrade();
        Check.end("TradeTest");
    }

    /** Uses 40 of 90 cpu (price 5) and 20 of 90 mem (price 3); net and disk are for nothing. */
    private static LimitBank pricedBank() {
        LimitBank bank = Check.bank(90, 100, 9, 9);
        Check.setLimits(bank, 0, 100);
        Check.setLimits(bank, 1, 100);
        Check.demand(bank, 1, "cpu 40 mem 20", 1);
        bank.grant();
        bank.setResource(3, false, 0);
        Check.due("price of cpu", bank.resource(0, 3), 5);
        Check.due("price of mem", bank.resource(1, 3), 3);
        Check.due("price of net", bank.resource(2, 3), 1);
        Check.due("price of disk", bank.resource(3, 3), 10);
        return bank;
    }

    private static void exchanges() {
        LimitBank bank = pricedBank();
        Check.due("exchange(0, 0, 1, 7)", bank.exchange(0, 0, 1, 7), 11);
        Check.due("limit of cpu", bank.account(0, 0, 0), 93);
        Check.due("limit of mem", bank.account(0, 1, 0), 111);
        Check.due("fund of cpu", bank.resource(0, 1), 107);
        Check.due("fund of mem", bank.resource(1, 1), 89);
        Check.due("limit of the other tenant", bank.account(1, 0, 0), 100);
        Check.due("exchange(0, 1, 0, 2)", bank.exchange(0, 1, 0, 2), 1);
        Check.due("exchange(0, 1, 0, 1)", bank.exchange(0, 1, 0, 1), LimitBank.STATE);
        Check.due("exchange(0, 2, 3, 9)", bank.exchange(0, 2, 3, 9), LimitBank.STATE);
        Check.due("exchange(0, 2, 3, 10)", bank.exchange(0, 2, 3, 10), 1);
        Check.due("exchange(0, 3, 2, 11): 110 of 110", bank.exchange(0, 3, 2, 11), 110);
        Check.due("fund of net", bank.resource(2, 1), 0);
        Check.due("exchange(0, 3, 2, 1)", bank.exchange(0, 3, 2, 1), LimitBank.STATE);
    }

    private static void exchangeErrors() {
        LimitBank bank = pricedBank();
        long before = bank.digest();
        int[][] wrong = {{-1, 0, 1, 1}, {2, 0, 1, 1}, {0, -1, 1, 1}, {0, 4, 1, 1}, {0, 0, -1, 1},
            {0, 0, 4, 1}, {0, 0, 0, 1}, {0, 3, 3, 1}, {0, 0, 1, 0}, {0, 0, 1, 1000},
            {0, 0, 1, Integer.MAX_VALUE}, {Integer.MIN_VALUE, 0, 1, 1}, {0, 0, 1, -5}};
        for (int[] each : wrong) {
            Check.refused(bank, before, "exchange " + java.util.Arrays.toString(each),
                    bank.exchange(each[0], each[1], each[2], each[3]), LimitBank.BAD);
        }
        Check.refused(bank, before, "more than the limit", bank.exchange(0, 2, 0, 101),
                LimitBank.STATE);
        Check.refused(bank, before, "more than the free part", bank.exchange(1, 0, 3, 61),
                LimitBank.STATE);
        Check.refused(bank, before, "more than the fund", bank.exchange(0, 0, 1, 61),
                LimitBank.STATE);
        Check.due("all the fund", bank.exchange(0, 0, 1, 60), 100);
    }

    private static void exchangeKeepsLoansAndUses() {
        LimitBank bank = Check.bank(90, 500, 9);
        Check.due("borrow(0, 0, 20)", bank.borrow(0, 0, 20), 20);
        bank.setLimit(0, 0, 25);
        Check.due("more than what is not borrowed", bank.exchange(0, 0, 1, 6), LimitBank.STATE);
        Check.due("what is not borrowed", bank.exchange(0, 0, 1, 5), 5);
        Check.due("loan", bank.account(0, 0, 1), 20);
        bank.setLimit(0, 2, 9);
        Check.demand(bank, 0, "net 4", 1);
        bank.grant();
        Check.due("more than the free part", bank.exchange(0, 2, 1, 6), LimitBank.STATE);
        Check.due("all the free part", bank.exchange(0, 2, 1, 5), 5);
        Check.due("free part", bank.account(0, 2, 3), 0);
    }

    private static void exchangeLimitIsFull() {
        LimitBank bank = Check.bank(10, 50, 1);
        bank.setLimit(0, 0, 20);
        bank.setLimit(0, 1, 9990);
        long before = bank.digest();
        Check.refused(bank, before, "a limit of 10000", bank.exchange(0, 0, 1, 10),
                LimitBank.FULL);
        Check.refused(bank, before, "STATE comes before FULL", bank.exchange(0, 0, 1, 21),
                LimitBank.STATE);
        Check.due("a limit of 9999", bank.exchange(0, 0, 1, 9), 9);
        Check.due("limit", bank.account(0, 1, 0), 9999);
    }

    private static void fundsOverflow() {
        LimitBank bank = Check.bank(10, 990, 9);
        Check.setLimits(bank, 0, 900);
        Check.due("exchange", bank.exchange(0, 0, 1, 9), 9);
        Check.due("a fund of 999", bank.resource(0, 1), 999);
        Check.due("exchange", bank.exchange(0, 0, 1, 500), 500);
        Check.due("a fund of no more", bank.resource(0, 1), 999);
        Check.due("borrow", bank.borrow(0, 2, 20), 20);
        bank.setResource(2, true, 985);
        Check.due("repay", bank.repay(0, 2, 20), 0);
        Check.due("a fund of no more by repay", bank.resource(2, 1), 999);
    }

    private static void loans() {
        LimitBank bank = Check.bank(10, 50, 2, 1);
        Check.due("borrow(0, 0, 3)", bank.borrow(0, 0, 3), 3);
        Check.due("borrow(0, 0, 4)", bank.borrow(0, 0, 4), 7);
        Check.due("borrow(0, 3, 13)", bank.borrow(0, 3, 13), 13);
        Check.due("limit", bank.account(0, 0, 0), 7);
        Check.due("loan", bank.account(0, 0, 1), 7);
        Check.due("fund", bank.resource(0, 1), 43);
        Check.due("fund", bank.resource(3, 1), 37);
        Check.due("limit of the other tenant", bank.account(1, 0, 0), 0);
        Check.due("borrow of the twenty-first", bank.borrow(0, 1, 1), LimitBank.STATE);
        Check.due("points", bank.tenant(0, 1), 0);
        bank.setResource(2, true, 10);
        Check.due("all the fund", bank.borrow(1, 2, 10), 10);
        Check.due("fund", bank.resource(2, 1), 0);
    }

    private static void loanErrors() {
        LimitBank bank = Check.bank(10, 8, 1);
        bank.setLimit(0, 1, 9995);
        long before = bank.digest();
        int[][] wrong = {{-1, 0, 1}, {1, 0, 1}, {0, -1, 1}, {0, 4, 1}, {0, 0, 0}, {0, 0, 1000},
            {0, 0, -1}, {0, 0, Integer.MAX_VALUE}, {Integer.MAX_VALUE, 0, 1},
            {0, Integer.MIN_VALUE, 1}};
        for (int[] each : wrong) {
            Check.refused(bank, before, "borrow " + java.util.Arrays.toString(each),
                    bank.borrow(each[0], each[1], each[2]), LimitBank.BAD);
            Check.refused(bank, before, "repay " + java.util.Arrays.toString(each),
                    bank.repay(each[0], each[1], each[2]), LimitBank.BAD);
        }
        Check.refused(bank, before, "more than the fund", bank.borrow(0, 0, 9), LimitBank.STATE);
        Check.refused(bank, before, "a limit of 10000", bank.borrow(0, 1, 5), LimitBank.FULL);
        Check.refused(bank, before, "STATE comes before FULL", bank.borrow(0, 1, 9),
                LimitBank.STATE);
        Check.due("a limit of 9999", bank.borrow(0, 1, 4), 4);
        Check.due("10 times the weight", bank.borrow(0, 0, 6), 6);
        bank.setResource(1, true, 900);
        Check.due("more than 10 times the weight", bank.borrow(0, 2, 1), LimitBank.STATE);
        Check.due("repay more than the loan", bank.repay(0, 0, 7), LimitBank.STATE);
        Check.due("repay without a loan", bank.repay(0, 2, 1), LimitBank.STATE);
    }

    private static void repayments() {
        LimitBank bank = Check.bank(90, 50, 5);
        bank.borrow(0, 0, 20);
        bank.setLimit(0, 0, 30);
        Check.demand(bank, 0, "cpu 25", 1);
        bank.grant();
        long before = bank.digest();
        Check.refused(bank, before, "more than the free part", bank.repay(0, 0, 6),
                LimitBank.STATE);
        Check.due("repay(0, 0, 5)", bank.repay(0, 0, 5), 15);
        Check.due("limit", bank.account(0, 0, 0), 25);
        Check.due("loan", bank.account(0, 0, 1), 15);
        Check.due("fund", bank.resource(0, 1), 35);
        bank.release(0);
        Check.due("more than the loan", bank.repay(0, 0, 16), LimitBank.STATE);
        Check.due("all the loan", bank.repay(0, 0, 15), 0);
        Check.due("limit", bank.account(0, 0, 0), 10);
    }

    private static void worths() {
        LimitBank bank = pricedBank();
        Check.due("worth(0, 0)", bank.worth(0, 0), 60 + 20 + 200);
        Check.due("worth(0, 1)", bank.worth(0, 1), 166 + 33 + 333);
        Check.due("worth(0, 2)", bank.worth(0, 2), 500 + 300 + 1000);
        Check.due("worth(0, 3)", bank.worth(0, 3), 50 + 30 + 10);
        Check.due("worth(1, 1) of a free part of 60", bank.worth(1, 1), 100 + 33 + 333);
        bank.borrow(1, 0, 90);
        bank.setLimit(1, 0, 140);
        Check.due("worth(1, 1) of 50 not borrowed", bank.worth(1, 1), 83 + 33 + 333);
        bank.setLimit(1, 0, 130);
        Check.due("worth(1, 1) of 40 not borrowed", bank.worth(1, 1), 66 + 33 + 333);
        bank.setResource(1, true, 0);
        Check.due("worth(1, 1) without a fund", bank.worth(1, 1), 66 + 33 + 333);
        int[][] wrong = {{-1, 0}, {2, 0}, {0, -1}, {0, 4}, {Integer.MAX_VALUE, 0},
            {0, Integer.MIN_VALUE}};
        for (int[] each : wrong) {
            Check.due("worth(" + each[0] + ", " + each[1] + ")", bank.worth(each[0], each[1]),
                    LimitBank.BAD);
        }
    }

    private static void bankruptsDoNotTrade() {
        LimitBank bank = Check.bank(0, 100, 1, 1);
        Check.setLimits(bank, 0, 50);
        bank.borrow(0, 0, 10);
        Check.due("pass(1)", bank.pass(1), 1);
        Check.due("solvent", bank.tenant(0, 3), 0);
        long before = bank.digest();
        Check.refused(bank, before, "exchange", bank.exchange(0, 0, 1, 1), LimitBank.STATE);
        Check.refused(bank, before, "borrow", bank.borrow(0, 0, 1), LimitBank.STATE);
        Check.refused(bank, before, "repay", bank.repay(0, 0, 1), LimitBank.STATE);
        Check.type(bank, "cpu 1");
        before = bank.digest();
        Check.refused(bank, before, "demand", bank.demand(0), LimitBank.STATE);
        Check.due("demand of a solvent one", bank.demand(1), 1);
        Check.due("worth of a bankrupt", bank.worth(0, 0), 150);
        Check.due("setLimit of a bankrupt", bank.setLimit(0, 0, 9), 50);
    }
}
