/** The sentences of "Ticks" that name a bound, a test each. */
final class TickEdgesTest {
    public static void main(String[] args) {
        timeIsZeroAtFirst();
        timeEndsAt9999();
        tickAddsOneToTheTime();
        pointsComeByWeight();
        solventTenantsAlonePayAndGet();
        priceIsThatOfTheBeginning();
        debtsBearInterestRoundedUp();
        noDebtBearsNoInterest();
        debtOfFiftyTimesTheWeightIsBorne();
        bankruptsFollowEachOtherByNumbers();
        grantsAndDemandsVanish();
        loansReturnToTheFund();
        pointsOfBankruptsAreZero();
        bankruptsComeToTheEndOfTheQueue();
        fundsKeepNoMoreThan999();
        restIsReached();
        restIsThreeAtFirst();
        restHasBounds();
        onlyOneLeavesInATick();
        nobodyLeavesInTheTickOfItsFall();
        Check.end("TickEdgesTest");
    }

    /** "Time is an integer, 0 at first" */
    private static void timeIsZeroAtFirst() {
        Check.due("the first time", new LimitBank().count(0), 0);
    }

    private static LimitBank lateBank(int time, int... weights) {
        LimitBank bank = Check.bank(0, 100, weights);
        for (int left = time; left > 0; left -= Math.min(left, 999)) {
            Check.due("pass", bank.pass(Math.min(left, 999)), 0);
        }
        Check.due("the late time", bank.count(0), time);
        return bank;
    }

    /** "at most 9999": reached from any time before it, and never passed. */
    private static void timeEndsAt9999() {
        for (int ticks : new int[] {1, 2, 500, 998, 999}) {
            LimitBank bank = lateBank(9999 - ticks, 9);
            if (ticks < 999) {
                Check.due("pass(" + (ticks + 1) + ") to 10000", bank.pass(ticks + 1),
                        LimitBank.FULL);
            }
            Check.due("the time stays", bank.count(0), 9999 - ticks);
            Check.due("pass(" + ticks + ") to 9999", bank.pass(ticks), 0);
            Check.due("the last time", bank.count(0), 9999);
            Check.due("pass(1) beyond the last time", bank.pass(1), LimitBank.FULL);
            Check.due("pass(999) beyond the last time", bank.pass(999), LimitBank.FULL);
            Check.due("the last time stays", bank.count(0), 9999);
            Check.due("the greatest points", bank.tenant(0, 1), 45 * 9999);
        }
    }

    /** "When a tick passes, the time increases by 1": also without tenants. */
    private static void tickAddsOneToTheTime() {
        LimitBank bank = new LimitBank();
        bank.pass(1);
        Check.due("the time after a tick", bank.count(0), 1);
        bank.pass(999);
        Check.due("the time after 1000 ticks", bank.count(0), 1000);
    }

    /** "Each solvent tenant gets 5 points for each unit of its weight" */
    private static void pointsComeByWeight() {
        LimitBank bank = Check.bank(0, 0, 1, 2, 8, 9);
        int[] weights = {1, 2, 8, 9};
        bank.pass(1);
        for (int t = 0; t < weights.length; t++) {
            Check.due("points of the weight " + weights[t], bank.tenant(t, 1), 5 * weights[t]);
        }
        bank.setWeight(3, 1);
        bank.pass(1);
        Check.due("points by the new weight", bank.tenant(3, 1), 45 + 5);
    }

    /** The same sentence: a bankrupt one gets none, also in the tick that makes it solvent. */
    private static void solventTenantsAlonePayAndGet() {
        LimitBank bank = Check.bank(0, 100, 1, 9);
        bank.borrow(0, 0, 10);
        Check.due("pass(1)", bank.pass(1), 1);
        for (int tick = 1; tick <= 3; tick++) {
            bank.pass(1);
            Check.due("points of a bankrupt, tick " + tick, bank.tenant(0, 1), 0);
        }
        Check.due("solvent again", bank.tenant(0, 3), 1);
        bank.pass(1);
        Check.due("points of one that is solvent again", bank.tenant(0, 1), 5);
        Check.due("points of the other one", bank.tenant(1, 1), 5 * 45);
    }

    /** "the price that the resource had when the tick began": not the one behind a bankruptcy. */
    private static void priceIsThatOfTheBeginning() {
        for (int faller = 0; faller <= 1; faller++) {
            int other = 1 - faller;
            LimitBank bank = Check.bank(10, 100, 1, 1);
            bank.setWeight(other, 9);
            Check.setLimits(bank, faller, 10);
            Check.use(bank, faller, "net 10");
            bank.borrow(faller, 2, 10);
            bank.borrow(other, 2, 1);
            Check.due("pass(1)", bank.pass(1), 1);
            Check.due("a loan at the price of 10", bank.tenant(other, 1), 45 - 10);
            bank.pass(1);
            Check.due("a loan at the price of 1", bank.tenant(other, 1), 35 + 45 - 1);
        }
    }

    /** A tenant with loans of a units at the price 10 and b units at the price 1. */
    private static LimitBank indebted(int weight, int a, int b) {
        LimitBank bank = new LimitBank();
        bank.addTenant(weight);
        bank.setResource(0, true, 999);
        bank.setResource(1, true, 999);
        bank.setResource(1, false, 9);
        if (a > 0) {
            Check.due("borrow at the price 10", bank.borrow(0, 0, a), a);
        }
        if (b > 0) {
            Check.due("borrow at the price 1", bank.borrow(0, 1, b), b);
        }
        return bank;
    }

    /** "pays a tenth of its debt, rounded up, as interest: with the points -25 it pays 3." */
    private static void debtsBearInterestRoundedUp() {
        int[] debts = {1, 2, 5, 9, 10, 11, 19, 20, 21, 25, 29, 30, 31, 39, 40, 41, 45};
        int[] interests = {1, 1, 1, 1, 1, 2, 2, 2, 3, 3, 3, 3, 4, 4, 4, 5, 5};
        for (int i = 0; i < debts.length; i++) {
            int cost = debts[i] + 5;
            LimitBank bank = indebted(1, cost / 10, cost % 10);
            Check.due("pass(1) to a debt of " + debts[i], bank.pass(1), 0);
            Check.due("points with the interest on " + debts[i], bank.tenant(0, 1),
                    -debts[i] - interests[i]);
        }
    }

    /** "Each solvent tenant whose points are negative": those with points of 0 or 1 pay none. */
    private static void noDebtBearsNoInterest() {
        LimitBank zero = indebted(1, 0, 5);
        zero.pass(1);
        Check.due("points of 0", zero.tenant(0, 1), 0);
        zero.pass(1);
        Check.due("points of 0 again", zero.tenant(0, 1), 0);
        LimitBank one = indebted(1, 0, 4);
        one.pass(1);
        Check.due("points of 1", one.tenant(0, 1), 1);
    }

    /** "whose debt is more than 50 times its weight": its interest counted, equal is not more. */
    private static void debtOfFiftyTimesTheWeightIsBorne() {
        int[] weights = {1, 3, 4, 5, 6, 7, 8, 9};
        int[] costs = {50, 151, 201, 252, 302, 353, 403, 454};
        for (int i = 0; i < weights.length; i++) {
            int weight = weights[i];
            LimitBank bank = indebted(weight, costs[i] / 10, costs[i] % 10);
            Check.due("ruin(0) at 50 times " + weight, bank.ruin(0), 2);
            Check.due("pass(1) to 50 times " + weight, bank.pass(1), 0);
            Check.due("points of -50 times " + weight, bank.tenant(0, 1), -50 * weight);
            bank = indebted(weight, costs[i] / 10, costs[i] % 10 + 1);
            Check.due("ruin(0) above 50 times " + weight, bank.ruin(0), 1);
            Check.due("pass(1) to one more than 50 times " + weight, bank.pass(1), 1);
        }
        LimitBank bank = indebted(9, 45, 4);
        bank.pass(1);
        bank.setWeight(0, 1);
        Check.due("a debt alone makes nobody bankrupt without a tick", bank.tenant(0, 3), 1);
        Check.due("pass(1) with the least weight", bank.pass(1), 1);
    }

    /** "becomes bankrupt, one after the other by their numbers": whoever has the greatest debt. */
    private static void bankruptsFollowEachOtherByNumbers() {
        LimitBank bank = Check.bank(0, 900, 1, 2, 3, 4, 5, 6);
        for (int t = 5; t >= 0; t--) {
            Check.due("borrow", bank.borrow(t, 0, 10 * (t + 1)), 10 * (t + 1));
        }
        Check.due("pass(1)", bank.pass(1), 6);
        for (int t = 0; t < 6; t++) {
            Check.due("place of " + t, bank.tenant(t, 6), t);
        }
        Check.due("count(7)", bank.count(7), 6);
    }

    /** "its grants and demands vanish": the first ones and the last ones, and no others. */
    private static void grantsAndDemandsVanish() {
        LimitBank bank = Check.bank(90, 100, 1, 1);
        bank.setResource(3, false, 0);
        Check.setLimits(bank, 0, 30);
        Check.setLimits(bank, 1, 30);
        Check.use(bank, 0, "cpu 1");
        Check.use(bank, 1, "cpu 2");
        Check.use(bank, 0, "cpu 3");
        Check.use(bank, 0, "cpu 4");
        Check.demand(bank, 0, "cpu 5", 1);
        Check.demand(bank, 0, "cpu 6", 2);
        Check.demand(bank, 1, "cpu 7", 3);
        Check.demand(bank, 0, "cpu 8", 4);
        bank.borrow(0, 3, 10);
        Check.due("pass(1)", bank.pass(1), 1);
        int[] left = {LimitBank.NONE, 2, LimitBank.NONE, LimitBank.NONE};
        for (int g = 0; g < 4; g++) {
            Check.due("granted(" + g + ", 0)", bank.granted(g, 0), left[g]);
        }
        Check.due("count(2)", bank.count(2), 1);
        Check.due("the use that is left", bank.resource(0, 2), 2);
        Check.due("the use by the bankrupt", bank.account(0, 0, 2), 0);
        Check.due("its share", bank.tenant(0, 2), 0);
        Check.due("count(3)", bank.count(3), 1);
        Check.due("demanded(0, 0)", bank.demanded(0, 0), 7);
        Check.due("count(5) stays", bank.count(5), 4);
        Check.due("release of what vanished", bank.release(3), LimitBank.BAD);
    }

    /** "its loans return to the fund (its limits decrease by them)" */
    private static void loansReturnToTheFund() {
        LimitBank bank = Check.bank(0, 100, 1);
        int[] limits = {0, 1, 20, 9000};
        for (int r = 0; r < 4; r++) {
            bank.setLimit(0, r, limits[r]);
            Check.due("borrow", bank.borrow(0, r, r + 1), r + 1);
        }
        Check.due("pass(1)", bank.pass(1), 1);
        for (int r = 0; r < 4; r++) {
            Check.due("limit " + r, bank.account(0, r, 0), limits[r]);
            Check.due("loan " + r, bank.account(0, r, 1), 0);
            Check.due("fund " + r, bank.resource(r, 1), 100);
        }
    }

    /** "its points become 0" */
    private static void pointsOfBankruptsAreZero() {
        LimitBank bank = indebted(9, 90, 0);
        Check.due("pass(1)", bank.pass(1), 1);
        Check.due("points", bank.tenant(0, 1), 0);
    }

    /** "and it comes to the end of the queue of bankrupts": behind a greater number, too. */
    private static void bankruptsComeToTheEndOfTheQueue() {
        LimitBank bank = Check.bank(0, 900, 1, 1, 1);
        bank.setRest(99);
        int[] order = {2, 0, 1};
        for (int i = 0; i < 3; i++) {
            bank.borrow(order[i], 0, 10);
            Check.due("pass(1)", bank.pass(1), i + 1);
            Check.due("the last place", bank.tenant(order[i], 6), i);
            Check.due("the first place", bank.tenant(2, 6), 0);
            Check.due("the time", bank.tenant(order[i], 7), i + 1);
        }
    }

    /** "What of a fund would be above 999 is lost.": with one bankrupt, and with two. */
    private static void fundsKeepNoMoreThan999() {
        int[] funds = {988, 989, 990, 998, 999};
        int[] then = {998, 999, 999, 999, 999};
        for (int i = 0; i < funds.length; i++) {
            LimitBank bank = Check.bank(0, 100, 1);
            bank.borrow(0, 3, 10);
            bank.setResource(3, true, funds[i]);
            Check.due("pass(1)", bank.pass(1), 1);
            Check.due("the fund of " + funds[i] + " and 10", bank.resource(3, 1), then[i]);
        }
        for (int fund = 978; fund <= 981; fund++) {
            LimitBank bank = Check.bank(0, 100, 1, 1);
            bank.borrow(0, 1, 10);
            bank.borrow(1, 1, 10);
            bank.setResource(1, true, fund);
            Check.due("pass(1)", bank.pass(1), 2);
            Check.due("the fund of " + fund + " and 20", bank.resource(1, 1),
                    Math.min(999, fund + 20));
        }
    }

    private static LimitBank fallenBank(int rest, int fallers) {
        LimitBank bank = Check.bank(0, 900, 1, 1, 1, 1, 1, 1);
        bank.setRest(rest);
        for (int t = 0; t < fallers; t++) {
            bank.borrow(t, 0, 10);
        }
        Check.due("pass(1) to bankruptcy", bank.pass(1), fallers);
        return bank;
    }

    /** "for at least as many ticks as the rest says, it leaves the queue, and is solvent again" */
    private static void restIsReached() {
        for (int rest : new int[] {2, 3, 4, 98, 99}) {
            LimitBank bank = fallenBank(rest, 1);
            Check.due("pass to one tick less than " + rest, bank.pass(rest - 1), 1);
            Check.due("still bankrupt", bank.tenant(0, 3), 0);
            Check.due("the first place", bank.tenant(0, 6), 0);
            Check.due("pass(1) to the rest of " + rest, bank.pass(1), 0);
            Check.due("solvent again", bank.tenant(0, 3), 1);
            Check.due("no place", bank.tenant(0, 6), LimitBank.NONE);
        }
        LimitBank bank = fallenBank(99, 1);
        bank.pass(50);
        bank.setRest(5);
        Check.due("not before a tick", bank.tenant(0, 3), 0);
        Check.due("pass(1) of more ticks than the rest", bank.pass(1), 0);
    }

    /** "The rest is 1 to 99, at first 3" */
    private static void restIsThreeAtFirst() {
        LimitBank bank = Check.bank(0, 100, 1);
        Check.due("count(6)", bank.count(6), 3);
        bank.borrow(0, 0, 10);
        Check.due("pass(3)", bank.pass(3), 1);
        Check.due("pass(1)", bank.pass(1), 0);
    }

    /** The same sentence: the least and the greatest rest are possible, and no others. */
    private static void restHasBounds() {
        LimitBank bank = new LimitBank();
        Check.due("setRest(0)", bank.setRest(0), LimitBank.BAD);
        Check.due("setRest(100)", bank.setRest(100), LimitBank.BAD);
        Check.due("the rest", bank.count(6), 3);
        Check.due("setRest(1)", bank.setRest(1), 3);
        Check.due("the least rest", bank.count(6), 1);
        Check.due("setRest(99)", bank.setRest(99), 1);
        Check.due("the greatest rest", bank.count(6), 99);
    }

    /** "only this one does so in a tick" */
    private static void onlyOneLeavesInATick() {
        LimitBank bank = fallenBank(1, 6);
        for (int left = 5; left >= 0; left--) {
            Check.due("pass(1)", bank.pass(1), left);
            for (int t = 0; t < 6; t++) {
                int place = t - (6 - left);
                Check.due("place of " + t, bank.tenant(t, 6), place < 0 ? LimitBank.NONE : place);
            }
        }
        Check.due("pass(1) of an empty queue", bank.pass(1), 0);
    }

    /** "one that becomes bankrupt in a tick has been there for 0 ticks in it." */
    private static void nobodyLeavesInTheTickOfItsFall() {
        LimitBank bank = fallenBank(1, 1);
        Check.due("bankrupt with the rest 1", bank.tenant(0, 3), 0);
        Check.due("pass(1) of the first tick", bank.pass(1), 0);
        bank = fallenBank(2, 1);
        Check.due("pass(1) of the first tick", bank.pass(1), 1);
        Check.due("pass(1) of the second tick", bank.pass(1), 0);
    }
}
