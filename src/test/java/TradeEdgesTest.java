/** The sentences of the promises 15 (exchange), 16 (borrow), 17 (repay) and 26 (worth). */
final class TradeEdgesTest {
    private static final int BAD = LimitBank.BAD, STATE = LimitBank.STATE, FULL = LimitBank.FULL;
    private static final int[] ODD = {Integer.MIN_VALUE, -1, 0, 1000, Integer.MAX_VALUE};

    public static void main(String[] args) {
        exchangeRoundsDown();
        exchangeForNothing();
        exchangeIsForAnotherOne();
        exchangeHasBounds();
        exchangeOfTheFreePart();
        exchangeOfTheLimitLessTheLoan();
        exchangeOfTheFund();
        exchangeUpToALimitOf9999();
        exchangeFillsTheFund();
        exchangeByABankrupt();
        borrowHasBounds();
        borrowOfTheFund();
        borrowOfTenTimesTheWeight();
        borrowUpToALimitOf9999();
        borrowByABankrupt();
        repayHasBounds();
        repayOfTheLoan();
        repayOfTheFreePart();
        repayFillsTheFund();
        worthIsRoundedForEach();
        worthOfTheLesserOne();
        worthWithoutTheFund();
        worthOfNothing();
        Check.end("TradeEdgesTest");
    }

    /** Tenant 1 makes the prices of cpu and mem; tenant 0 has a limit of 999 cpu. */
    private static LimitBank priced(int cpu, int mem) {
        LimitBank bank = Check.bank(9, 900, 9, 9);
        Check.setLimits(bank, 1, 9);
        Check.use(bank, 1, "cpu " + (cpu - 1) + " mem " + (mem - 1) + " net 1");
        Check.due("the price of cpu", bank.resource(0, 3), cpu);
        Check.due("the price of mem", bank.resource(1, 3), mem);
        bank.setLimit(0, 0, 999);
        return bank;
    }

    /** "m = n * (price of the one) / (price of the other one), rounded down, come from the fund" */
    private static void exchangeRoundsDown() {
        int[][] rows = {{1, 1, 1, 1}, {5, 3, 1, 1}, {5, 3, 2, 3}, {5, 3, 3, 5}, {3, 5, 2, 1},
            {3, 5, 3, 1}, {3, 5, 4, 2}, {1, 10, 10, 1}, {1, 10, 19, 1}, {1, 10, 20, 2},
            {1, 10, 999, 99}, {10, 1, 1, 10}, {10, 1, 90, 900}, {10, 9, 8, 8}, {10, 9, 9, 10},
            {7, 2, 257, 899}};
        for (int[] row : rows) {
            LimitBank bank = priced(row[0], row[1]);
            String call = row[2] + " at " + row[0] + " for mem at " + row[1];
            Check.due("exchange of " + call, bank.exchange(0, 0, 1, row[2]), row[3]);
            Check.due("limit of cpu, " + call, bank.account(0, 0, 0), 999 - row[2]);
            Check.due("limit of mem, " + call, bank.account(0, 1, 0), row[3]);
            Check.due("fund of mem, " + call, bank.resource(1, 1), 900 - row[3]);
            Check.due("fund of cpu, " + call, bank.resource(0, 1), Math.min(999, 900 + row[2]));
        }
    }

    /** "STATE if ... m is 0" */
    private static void exchangeForNothing() {
        int[][] rows = {{1, 2, 1}, {3, 5, 1}, {1, 10, 9}, {9, 10, 1}, {2, 9, 4}};
        for (int[] row : rows) {
            LimitBank bank = priced(row[0], row[1]);
            long before = bank.digest();
            Check.refused(bank, before, row[2] + " for nothing", bank.exchange(0, 0, 1, row[2]),
                    STATE);
            Check.due("one more", bank.exchange(0, 0, 1, row[2] + 1), 1);
        }
    }

    /** "other: another one" */
    private static void exchangeIsForAnotherOne() {
        for (int r = 0; r < 4; r++) {
            LimitBank bank = priced(1, 1);
            Check.setLimits(bank, 0, 50);
            long before = bank.digest();
            Check.refused(bank, before, "exchange for the same", bank.exchange(0, r, r, 5), BAD);
        }
    }

    /** "n: 1 to 999" */
    private static void exchangeHasBounds() {
        LimitBank bank = priced(1, 1);
        bank.setLimit(0, 0, 9999);
        long before = bank.digest();
        for (int n : ODD) {
            Check.refused(bank, before, "exchange of " + n, bank.exchange(0, 0, 1, n), BAD);
        }
        Check.due("exchange of 1", bank.exchange(0, 0, 1, 1), 1);
        bank.setResource(1, true, 999);
        Check.due("exchange of 999", bank.exchange(0, 0, 1, 999), 999);
        Check.due("the limit of the one", bank.account(0, 0, 0), 8999);
        Check.due("the limit of the other one", bank.account(0, 1, 0), 1000);
    }

    /** "STATE if ... the free part of its limit ... is less than n" */
    private static void exchangeOfTheFreePart() {
        LimitBank bank = Check.bank(90, 900, 9, 9);
        bank.setLimit(0, 3, 20);
        bank.setLimit(1, 3, 50);
        Check.use(bank, 0, "disk 5");
        Check.use(bank, 1, "disk 4");
        Check.due("above the free part", bank.exchange(0, 3, 2, 16), STATE);
        Check.due("all the free part", bank.exchange(0, 3, 2, 15), 15);
        Check.due("no free part", bank.exchange(0, 3, 2, 1), STATE);
        bank.release(0);
        Check.due("the free part of nothing used", bank.exchange(0, 3, 2, 5), 5);
        Check.due("no limit", bank.exchange(0, 3, 2, 1), STATE);
    }

    /** "or the limit less the loan, is less than n" */
    private static void exchangeOfTheLimitLessTheLoan() {
        for (int use = 7; use <= 9; use++) {
            LimitBank bank = Check.bank(90, 900, 9);
            bank.borrow(0, 2, 8);
            bank.setLimit(0, 2, 20);
            Check.use(bank, 0, "net " + use);
            int most = Math.min(12, 20 - use);
            Check.due("above what is free and not borrowed", bank.exchange(0, 2, 1, most + 1),
                    STATE);
            Check.due("what is free and not borrowed", bank.exchange(0, 2, 1, most), most);
        }
        LimitBank bank = Check.bank(90, 900, 9);
        bank.borrow(0, 2, 8);
        Check.due("a loan alone", bank.exchange(0, 2, 1, 1), STATE);
    }

    /** "or the fund has fewer than m units": the fund of the other one. */
    private static void exchangeOfTheFund() {
        LimitBank bank = priced(5, 3);
        bank.setResource(0, true, 0);
        bank.setResource(1, true, 10);
        Check.due("7 for 11 of 10", bank.exchange(0, 0, 1, 7), STATE);
        bank.setResource(1, true, 11);
        Check.due("7 for 11 of 11", bank.exchange(0, 0, 1, 7), 11);
        Check.due("the fund is empty", bank.resource(1, 1), 0);
        Check.due("1 for 1 of 0", bank.exchange(0, 0, 1, 1), STATE);
    }

    /** "FULL if a limit would be above 9999." */
    private static void exchangeUpToALimitOf9999() {
        LimitBank bank = priced(5, 3);
        bank.setLimit(0, 1, 9989);
        Check.due("7 for 11", bank.exchange(0, 0, 1, 7), FULL);
        bank.setLimit(0, 1, 9988);
        Check.due("7 for 11", bank.exchange(0, 0, 1, 7), 11);
        Check.due("the limit", bank.account(0, 1, 0), 9999);
        bank.setLimit(0, 0, 9999);
        Check.due("a full limit for another one", bank.exchange(0, 0, 2, 7), 17);
    }

    /** "What of a fund would be above 999 is lost." */
    private static void exchangeFillsTheFund() {
        int[] funds = {989, 990, 991, 999, 0};
        int[] then = {998, 999, 999, 999, 9};
        for (int i = 0; i < funds.length; i++) {
            LimitBank bank = priced(1, 1);
            bank.setResource(0, true, funds[i]);
            Check.due("exchange of 9", bank.exchange(0, 0, 1, 9), 9);
            Check.due("the fund of " + funds[i] + " and 9", bank.resource(0, 1), then[i]);
            Check.due("the limit", bank.account(0, 0, 0), 990);
        }
    }

    /** "STATE if the tenant is bankrupt" */
    private static void exchangeByABankrupt() {
        LimitBank bank = bankrupt();
        Check.due("exchange by a bankrupt", bank.exchange(0, 0, 1, 5), STATE);
        bank.pass(2);
        Check.due("exchange by a bankrupt", bank.exchange(0, 0, 1, 5), STATE);
        bank.pass(1);
        Check.due("exchange by one that is solvent again", bank.exchange(0, 0, 1, 5), 5);
    }

    private static LimitBank bankrupt() {
        LimitBank bank = Check.bank(0, 900, 1);
        Check.setLimits(bank, 0, 50);
        bank.borrow(0, 0, 10);
        Check.due("pass(1)", bank.pass(1), 1);
        return bank;
    }

    /** "n: 1 to 999": 999 are always more than the weight allows. */
    private static void borrowHasBounds() {
        LimitBank bank = Check.bank(9, 999, 9);
        long before = bank.digest();
        for (int n : ODD) {
            Check.refused(bank, before, "borrow of " + n, bank.borrow(0, 0, n), BAD);
        }
        Check.refused(bank, before, "borrow of 999", bank.borrow(0, 0, 999), STATE);
        Check.due("borrow of 1", bank.borrow(0, 0, 1), 1);
        Check.due("borrow of 89", bank.borrow(0, 0, 89), 90);
    }

    /** "STATE if ... the fund has fewer units" */
    private static void borrowOfTheFund() {
        for (int r = 0; r < 4; r++) {
            LimitBank bank = Check.bank(9, 50, 9);
            bank.setResource(r, true, 7);
            Check.due("8 of 7", bank.borrow(0, r, 8), STATE);
            Check.due("7 of 7", bank.borrow(0, r, 7), 7);
            Check.due("the fund is empty", bank.resource(r, 1), 0);
            Check.due("1 of 0", bank.borrow(0, r, 1), STATE);
            Check.due("another fund", bank.borrow(0, 3 - r, 50), 50);
        }
    }

    /** "or all its loans together would be more than 10 times its weight" */
    private static void borrowOfTenTimesTheWeight() {
        for (int weight = 1; weight <= 9; weight++) {
            LimitBank bank = Check.bank(9, 999, weight, 9);
            bank.borrow(1, 0, 90);
            Check.due("more than all at once", bank.borrow(0, 2, 10 * weight + 1), STATE);
            Check.due("borrow", bank.borrow(0, 0, 1), 1);
            Check.due("borrow", bank.borrow(0, 1, 2), 2);
            Check.due("borrow", bank.borrow(0, 2, 3), 3);
            Check.due("more than all", bank.borrow(0, 3, 10 * weight - 5), STATE);
            Check.due("all", bank.borrow(0, 3, 10 * weight - 6), 10 * weight - 6);
            Check.due("more than all", bank.borrow(0, 2, 1), STATE);
            Check.due("repay", bank.repay(0, 1, 1), 1);
            Check.due("all again", bank.borrow(0, 2, 1), 4);
        }
    }

    /** "FULL if a limit would be above 9999." */
    private static void borrowUpToALimitOf9999() {
        LimitBank bank = Check.bank(9, 50, 9);
        bank.setLimit(0, 3, 9990);
        Check.due("borrow to 10000", bank.borrow(0, 3, 10), FULL);
        Check.due("borrow to 9999", bank.borrow(0, 3, 9), 9);
        Check.due("the limit", bank.account(0, 3, 0), 9999);
        Check.due("borrow to 10000 again", bank.borrow(0, 3, 1), FULL);
        Check.due("borrow of another one", bank.borrow(0, 2, 1), 1);
    }

    /** "STATE if the tenant is bankrupt" */
    private static void borrowByABankrupt() {
        LimitBank bank = bankrupt();
        Check.due("borrow by a bankrupt", bank.borrow(0, 0, 1), STATE);
        bank.pass(3);
        Check.due("borrow by one that is solvent again", bank.borrow(0, 0, 1), 1);
    }

    /** "n: 1 to 999": 999 are always more than a loan. */
    private static void repayHasBounds() {
        LimitBank bank = Check.bank(9, 999, 9);
        bank.borrow(0, 0, 90);
        long before = bank.digest();
        for (int n : ODD) {
            Check.refused(bank, before, "repay of " + n, bank.repay(0, 0, n), BAD);
        }
        Check.refused(bank, before, "repay of 999", bank.repay(0, 0, 999), STATE);
        Check.due("repay of 1", bank.repay(0, 0, 1), 89);
        Check.due("repay of 89", bank.repay(0, 0, 89), 0);
    }

    /** "STATE if the loan ... is less than n." */
    private static void repayOfTheLoan() {
        for (int r = 0; r < 4; r++) {
            LimitBank bank = Check.bank(9, 50, 9, 9);
            Check.setLimits(bank, 0, 40);
            bank.borrow(0, r, 7);
            bank.borrow(1, r, 30);
            bank.borrow(0, 3 - r, 20);
            Check.due("8 of 7", bank.repay(0, r, 8), STATE);
            Check.due("7 of 7", bank.repay(0, r, 7), 0);
            Check.due("the limit", bank.account(0, r, 0), 40);
            Check.due("the fund", bank.resource(r, 1), 20);
            Check.due("1 of 0", bank.repay(0, r, 1), STATE);
        }
    }

    /** "or the free part of the limit, is less than n." */
    private static void repayOfTheFreePart() {
        LimitBank bank = Check.bank(90, 50, 9);
        bank.borrow(0, 1, 20);
        Check.use(bank, 0, "mem 14");
        Check.due("7 of 6", bank.repay(0, 1, 7), STATE);
        Check.due("6 of 6", bank.repay(0, 1, 6), 14);
        Check.due("the free part", bank.account(0, 1, 3), 0);
        Check.due("1 of 0", bank.repay(0, 1, 1), STATE);
        bank.release(0);
        Check.due("14 of 14", bank.repay(0, 1, 14), 0);
        Check.due("the limit", bank.account(0, 1, 0), 0);
    }

    /** "What of a fund would be above 999 is lost." */
    private static void repayFillsTheFund() {
        int[] funds = {991, 992, 993, 999, 0};
        int[] then = {998, 999, 999, 999, 7};
        for (int i = 0; i < funds.length; i++) {
            LimitBank bank = Check.bank(9, 50, 9);
            bank.borrow(0, 2, 9);
            bank.setResource(2, true, funds[i]);
            Check.due("repay of 7", bank.repay(0, 2, 7), 2);
            Check.due("the fund of " + funds[i] + " and 7", bank.resource(2, 1), then[i]);
            Check.due("the limit", bank.account(0, 2, 0), 2);
        }
    }

    /** "f * (price of the other one) / (price of this one), rounded down each" */
    private static void worthIsRoundedForEach() {
        LimitBank bank = Check.bank(9, 0, 9, 9);
        Check.setLimits(bank, 1, 9);
        Check.use(bank, 1, "cpu 9 mem 2 net 2 disk 2");
        Check.setLimits(bank, 0, 3);
        Check.due("three times 9 / 10", bank.worth(0, 0), 0);
        Check.due("30 / 3 and twice 9 / 3", bank.worth(0, 1), 16);
        bank.setLimit(0, 3, 4);
        Check.due("twice 9 / 10, and 12 / 10", bank.worth(0, 0), 1);
        bank.setLimit(0, 0, 9999);
        Check.due("the greatest limit: 99990 / 3, 9 / 3 and 12 / 3", bank.worth(0, 1), 33337);
        Check.due("the limit of this one does not count", bank.worth(0, 0), 1);
    }

    /** "where f is the lesser one of the free part of the limit and the limit less the loan" */
    private static void worthOfTheLesserOne() {
        for (int use = 7; use <= 9; use++) {
            LimitBank bank = Check.bank(999, 900, 9);
            bank.borrow(0, 2, 8);
            bank.setLimit(0, 2, 20);
            Check.use(bank, 0, "net " + use);
            Check.due("worth with a use of " + use, bank.worth(0, 0), use < 8 ? 12 : 20 - use);
        }
    }

    /** "without regard to the fund" */
    private static void worthWithoutTheFund() {
        LimitBank bank = Check.bank(9, 0, 1);
        Check.setLimits(bank, 0, 10);
        Check.due("worth with empty funds", bank.worth(0, 1), 30);
        bank.setResource(0, true, 999);
        bank.setResource(1, true, 999);
        Check.due("worth with full funds", bank.worth(0, 1), 30);
    }

    /** A worth is 0 where there is nothing to exchange; a bankrupt tenant has one, too. */
    private static void worthOfNothing() {
        LimitBank bank = Check.bank(9, 50, 1);
        for (int r = 0; r < 4; r++) {
            Check.due("worth without limits", bank.worth(0, r), 0);
        }
        bank.borrow(0, 1, 10);
        Check.due("worth of a loan", bank.worth(0, 0), 0);
        bank.setLimit(0, 1, 11);
        Check.use(bank, 0, "mem 9");
        Check.due("worth of one unit at the price of 10", bank.worth(0, 0), 10);
        bank.setLimit(0, 1, 10);
        Check.due("worth of a loan that is in use", bank.worth(0, 0), 0);
        Check.due("worth of a bankrupt", bankrupt().worth(0, 0), 150);
    }
}
