import java.math.BigInteger;

/**
 * The sentences of the promises 1 to 14, 18 and 20 to 29 that name a bound, as far as they say more
 * than the description does: a test each. The promises 15, 16, 17 and 26 are in TradeEdgesTest, 19
 * in ChangeEdgesTest.
 */
final class PromiseEdgesTest {
    private static final int BAD = LimitBank.BAD, STATE = LimitBank.STATE, FULL = LimitBank.FULL;
    private static final int NONE = LimitBank.NONE;

    public static void main(String[] args) {
        newBankIsEmpty();
        letterHasBounds();
        clearTextTellsTheLength();
        noFault();
        setResourceTellsTheValueBefore();
        capacityIsNoLessThanTheUse();
        fundCanBeLessThanTheUse();
        ticksOfTheRestHaveBounds();
        addTenantTellsTheNextNumber();
        weightOfABankruptCanBeSet();
        limitIsNoLessThanTheUse();
        limitIsNoLessThanTheLoan();
        demandIsPutAtTheEnd();
        demandLeavesTheText();
        demandOfABankrupt();
        demandOfNoUnits();
        withdrawTakesTheFirst();
        withdrawOfNone();
        grantOfNone();
        grantAllEndsAtFortyGrants();
        grantAllIsOneChange();
        grantAllOfNone();
        releaseOfNoGrant();
        passHasBounds();
        passTellsTheBankruptsThen();
        whatHasBounds();
        sumsAreOfAllTenants();
        placesAndTimesAreToldOrNone();
        grantedOfNone();
        demandedOfNone();
        planHasBounds();
        ruinHasBounds();
        ruinOfABankrupt();
        ruinBeyondTheTime();
        ruinOfAllTenants();
        digestOverflows();
        Check.end("PromiseEdgesTest");
    }

    /** Promise 1: "without capacities, funds and tenants, with an empty text." */
    private static void newBankIsEmpty() {
        int[] numbers = {0, 0, 0, 0, 0, 0, 3, 0, 0, 0, 0, 0, 0, 10, 0, 0, 0, 0, 0, 10, 0, 0, 0, 0,
            0, 10, 0, 0, 0, 0, 0, 10, 0, 0, 0};
        long h = 113;
        for (int number : numbers) {
            h = 31 * h + number;
        }
        LimitBank bank = new LimitBank();
        Check.due("digest() of a new bank", bank.digest(), h);
        Check.due("undo() in a new bank", bank.undo(), STATE);
    }

    /** Promise 2: "letter: the byte, 0 to 127" */
    private static void letterHasBounds() {
        LimitBank bank = new LimitBank();
        for (int letter : new int[] {Integer.MIN_VALUE, -1, 128, 255, 256, Integer.MAX_VALUE}) {
            Check.due("type(" + letter + ")", bank.type(letter), BAD);
        }
        Check.due("clearText()", bank.clearText(), 0);
        for (int letter = 0; letter <= 127; letter++) {
            Check.due("type(" + letter + ")", bank.type(letter), letter % 60 + 1);
            if (letter % 60 == 59) {
                bank.clearText();
            }
        }
    }

    /** Promise 3: "Returns the length that it had." */
    private static void clearTextTellsTheLength() {
        LimitBank bank = new LimitBank();
        for (int length : new int[] {0, 1, 59, 60, 0}) {
            Check.type(bank, " ".repeat(length));
            Check.due("clearText()", bank.clearText(), length);
            Check.due("count(9)", bank.count(9), 0);
            Check.due("clearText() again", bank.clearText(), 0);
        }
    }

    /** Promise 4: "NONE if there is no fault." */
    private static void noFault() {
        LimitBank bank = new LimitBank();
        Check.due("fault() of no text", bank.fault(), NONE);
        Check.type(bank, "x");
        Check.due("fault() at 0", bank.fault(), 0);
        bank.clearText();
        Check.due("fault() of a text that is gone", bank.fault(), NONE);
    }

    /** Promise 5: "Returns the value before" */
    private static void setResourceTellsTheValueBefore() {
        LimitBank bank = new LimitBank();
        int[] values = {999, 0, 1, 998, 998};
        for (int r = 0; r < 4; r++) {
            int capacity = 0;
            int fund = 0;
            for (int value : values) {
                Check.due("the capacity before", bank.setResource(r, false, value), capacity);
                Check.due("the fund before", bank.setResource(r, true, 999 - value), fund);
                capacity = value;
                fund = 999 - value;
            }
        }
    }

    /** "STATE if the capacity would be less than the use." */
    private static void capacityIsNoLessThanTheUse() {
        String[] names = {"cpu", "mem", "net", "disk"};
        for (int r = 0; r < 4; r++) {
            LimitBank bank = Check.bank(20, 0, 1, 1);
            Check.setLimits(bank, 0, 20);
            Check.setLimits(bank, 1, 20);
            Check.use(bank, 0, names[r] + " 4");
            Check.use(bank, 1, names[r] + " 3");
            Check.due("a capacity of 6", bank.setResource(r, false, 6), STATE);
            Check.due("a capacity of 0", bank.setResource(r, false, 0), STATE);
            Check.due("a capacity of 7", bank.setResource(r, false, 7), 20);
            Check.due("the capacity", bank.resource(r, 0), 7);
            Check.due("another capacity", bank.setResource((r + 1) % 4, false, 0), 20);
            bank.release(0);
            Check.due("a capacity of 3", bank.setResource(r, false, 3), 7);
        }
    }

    /** The same sentence: a fund is not asked. */
    private static void fundCanBeLessThanTheUse() {
        LimitBank bank = Check.bank(20, 20, 1);
        Check.setLimits(bank, 0, 20);
        Check.use(bank, 0, "net 9");
        Check.due("a fund of 8", bank.setResource(2, true, 8), 20);
        Check.due("a fund of 0", bank.setResource(2, true, 0), 8);
    }

    /** Promise 6: "ticks: 1 to 99" */
    private static void ticksOfTheRestHaveBounds() {
        LimitBank bank = new LimitBank();
        for (int ticks : new int[] {Integer.MIN_VALUE, -1, 0, 100, Integer.MAX_VALUE}) {
            Check.due("setRest(" + ticks + ")", bank.setRest(ticks), BAD);
        }
        int before = 3;
        for (int ticks = 1; ticks <= 99; ticks++) {
            Check.due("setRest(" + ticks + ")", bank.setRest(ticks), before);
            before = ticks;
        }
    }

    /** Promise 7: "Adds a tenant, with the next number."; "FULL if there are 6." */
    private static void addTenantTellsTheNextNumber() {
        LimitBank bank = new LimitBank();
        for (int weight : new int[] {Integer.MIN_VALUE, -1, 0, 10, Integer.MAX_VALUE}) {
            Check.due("addTenant(" + weight + ")", bank.addTenant(weight), BAD);
        }
        for (int t = 0; t < 6; t++) {
            Check.due("addTenant", bank.addTenant(9 - t), t);
        }
        Check.due("addTenant", bank.addTenant(1), FULL);
        bank.undo();
        Check.due("addTenant after undo()", bank.addTenant(1), 5);
        Check.due("addTenant", bank.addTenant(1), FULL);
    }

    /** Promise 8 has no STATE: the tenant can be bankrupt, and owe more than the weight allows. */
    private static void weightOfABankruptCanBeSet() {
        LimitBank bank = Check.bank(9, 100, 9);
        for (int weight : new int[] {Integer.MIN_VALUE, -1, 0, 10, Integer.MAX_VALUE}) {
            Check.due("setWeight(0, " + weight + ")", bank.setWeight(0, weight), BAD);
        }
        bank.borrow(0, 0, 90);
        Check.due("setWeight(0, 1) with loans for 9", bank.setWeight(0, 1), 9);
        Check.due("pass(1)", bank.pass(1), 1);
        Check.due("setWeight(0, 4) of a bankrupt", bank.setWeight(0, 4), 1);
    }

    /** Promise 9: "STATE if it would be less than the use by the tenant" */
    private static void limitIsNoLessThanTheUse() {
        String[] names = {"cpu", "mem", "net", "disk"};
        for (int r = 0; r < 4; r++) {
            LimitBank bank = Check.bank(99, 0, 1, 1);
            Check.setLimits(bank, 0, 50);
            Check.setLimits(bank, 1, 50);
            Check.use(bank, 0, names[r] + " 7");
            Check.use(bank, 1, names[r] + " 30");
            Check.due("a limit of 6", bank.setLimit(0, r, 6), STATE);
            Check.due("a limit of 0", bank.setLimit(0, r, 0), STATE);
            Check.due("a limit of 7", bank.setLimit(0, r, 7), 50);
            Check.due("another limit", bank.setLimit(0, 3 - r, 0), 50);
            Check.due("the limit", bank.account(0, r, 0), 7);
        }
    }

    /** "or than its loan." */
    private static void limitIsNoLessThanTheLoan() {
        for (int r = 0; r < 4; r++) {
            LimitBank bank = Check.bank(99, 100, 1, 9);
            Check.due("borrow", bank.borrow(0, r, 7), 7);
            Check.due("borrow", bank.borrow(1, r, 50), 50);
            Check.due("a limit of 6", bank.setLimit(0, r, 6), STATE);
            Check.due("a limit of 8", bank.setLimit(0, r, 8), 7);
            Check.due("a limit of 7", bank.setLimit(0, r, 7), 8);
            Check.due("another limit", bank.setLimit(0, 3 - r, 0), 0);
        }
    }

    /** Promise 10: "Puts a demand, the vector of the text, at the end of the queue" */
    private static void demandIsPutAtTheEnd() {
        LimitBank bank = Check.bank(0, 0, 1, 1);
        for (int i = 1; i <= 24; i++) {
            Check.demand(bank, i % 2, "disk " + i, i);
            Check.due("the last demand", bank.demanded(i - 1, 3), i);
            Check.due("the first demand", bank.demanded(0, 3), 1);
        }
    }

    /** "the text stays": also if the call is refused. */
    private static void demandLeavesTheText() {
        LimitBank bank = Check.bank(0, 0, 1);
        Check.demand(bank, 0, " net 5", 1);
        Check.due("count(9)", bank.count(9), 6);
        Check.due("demand(0) again", bank.demand(0), 2);
        Check.due("demanded(1, 2)", bank.demanded(1, 2), 5);
        Check.type(bank, "net");
        Check.due("demand(0) of a fault", bank.demand(0), STATE);
        Check.due("count(9)", bank.count(9), 3);
        bank.type('6');
        Check.due("demand(0) of what went on", bank.demand(0), 3);
        Check.due("demanded(2, 2)", bank.demanded(2, 2), 6);
    }

    private static LimitBank fallen(int rest) {
        LimitBank bank = Check.bank(0, 100, 1, 1);
        bank.setRest(rest);
        bank.borrow(0, 0, 10);
        Check.due("pass(1)", bank.pass(1), 1);
        return bank;
    }

    /** "STATE if the tenant is bankrupt" */
    private static void demandOfABankrupt() {
        LimitBank bank = fallen(1);
        Check.type(bank, "cpu 1");
        Check.due("demand of a bankrupt", bank.demand(0), STATE);
        bank.pass(1);
        Check.due("demand of one that is solvent again", bank.demand(0), 1);
    }

    /** "or all its units are 0": one unit of any resource is enough. */
    private static void demandOfNoUnits() {
        LimitBank bank = Check.bank(0, 0, 1);
        for (String text : new String[] {"", " ", "cpu 0", "cpu 00mem 0net 0disk 0"}) {
            Check.type(bank, text);
            Check.due("demand(0) of \"" + text + "\"", bank.demand(0), STATE);
        }
        Check.demand(bank, 0, "cpu 1 mem 0 net 0 disk 0", 1);
        Check.demand(bank, 0, "cpu 0 mem 1 net 0 disk 0", 2);
        Check.demand(bank, 0, "cpu 0 mem 0 net 1 disk 0", 3);
        Check.demand(bank, 0, "cpu 0 mem 0 net 0 disk 1", 4);
    }

    /** Promise 11: "Takes the first demand of a tenant out of the queue." */
    private static void withdrawTakesTheFirst() {
        LimitBank bank = Check.bank(0, 0, 1, 1);
        for (int i = 1; i <= 24; i++) {
            Check.demand(bank, i <= 12 ? 0 : 1, "mem " + i, i);
        }
        Check.due("withdraw(1)", bank.withdraw(1), 23);
        Check.due("demanded(11, 1)", bank.demanded(11, 1), 12);
        Check.due("demanded(12, 1)", bank.demanded(12, 1), 14);
        Check.due("demanded(22, 1)", bank.demanded(22, 1), 24);
        Check.due("demanded(23, 1)", bank.demanded(23, 1), NONE);
        Check.due("withdraw(0)", bank.withdraw(0), 22);
        Check.due("demanded(0, 1)", bank.demanded(0, 1), 2);
    }

    /** "STATE if the tenant has none.": though others have some. */
    private static void withdrawOfNone() {
        LimitBank bank = Check.bank(0, 0, 1, 1, 1);
        Check.due("withdraw(1) of an empty queue", bank.withdraw(1), STATE);
        Check.demand(bank, 0, "mem 1", 1);
        Check.demand(bank, 2, "mem 1", 2);
        Check.due("withdraw(1) of the others' queue", bank.withdraw(1), STATE);
        Check.due("withdraw(0)", bank.withdraw(0), 1);
        Check.due("withdraw(2)", bank.withdraw(2), 0);
        Check.due("withdraw(2) again", bank.withdraw(2), STATE);
    }

    /** Promise 12: "STATE if none is next": no tenants, no demands, or none that fits. */
    private static void grantOfNone() {
        LimitBank bank = new LimitBank();
        Check.due("grant() without tenants", bank.grant(), STATE);
        bank.addTenant(1);
        Check.due("grant() without demands", bank.grant(), STATE);
        Check.demand(bank, 0, "cpu 1", 1);
        Check.due("grant() without a limit", bank.grant(), STATE);
        bank.setLimit(0, 0, 1);
        Check.due("grant() without a capacity", bank.grant(), STATE);
        bank.setResource(0, false, 1);
        Check.due("grant()", bank.grant(), 0);
        Check.due("grant() without demands again", bank.grant(), STATE);
    }

    private static LimitBank withGrantsAndDemands(int grants, int demands) {
        LimitBank bank = Check.bank(99, 0, 1);
        Check.setLimits(bank, 0, 99);
        Check.type(bank, "cpu 1");
        for (int i = 0; i < grants; i++) {
            bank.demand(0);
            Check.due("grant()", bank.grant(), 0);
        }
        for (int i = 1; i <= demands; i++) {
            Check.due("demand(0)", bank.demand(0), i);
        }
        return bank;
    }

    /** Promise 13: "as long as there is one, and there are fewer than 40 grants." */
    private static void grantAllEndsAtFortyGrants() {
        int[][] rows = {{0, 1}, {0, 24}, {15, 24}, {16, 24}, {17, 24}, {38, 1}, {38, 2}, {38, 3},
            {39, 1}, {39, 2}, {39, 24}};
        for (int[] row : rows) {
            LimitBank bank = withGrantsAndDemands(row[0], row[1]);
            int granted = Math.min(row[1], 40 - row[0]);
            String of = " with " + row[0] + " grants and " + row[1] + " demands";
            Check.due("plan(-1)" + of, bank.plan(-1), granted);
            Check.due("the last one of the plan" + of, bank.plan(granted - 1), 0);
            Check.due("one more of the plan" + of, bank.plan(granted), NONE);
            Check.due("grantAll()" + of, bank.grantAll(), granted);
            Check.due("grants then" + of, bank.count(2), row[0] + granted);
            Check.due("demands then" + of, bank.count(3), row[1] - granted);
        }
    }

    /** "This is one change." */
    private static void grantAllIsOneChange() {
        LimitBank bank = withGrantsAndDemands(0, 2);
        for (int i = 0; i < 5; i++) {
            bank.undo();
        }
        Check.due("demand(0)", bank.demand(0), 1);
        Check.due("demand(0)", bank.demand(0), 2);
        Check.due("demand(0)", bank.demand(0), 3);
        int history = bank.count(8);
        Check.due("grantAll()", bank.grantAll(), 3);
        Check.due("count(8)", bank.count(8), history + 1);
        Check.due("undo()", bank.undo(), history);
        Check.due("count(2)", bank.count(2), 0);
        Check.due("count(3)", bank.count(3), 3);
    }

    /** "STATE if none is next; FULL if there are 40 grants." */
    private static void grantAllOfNone() {
        Check.due("grantAll() without demands", withGrantsAndDemands(1, 0).grantAll(), STATE);
        Check.due("grantAll() without demands at 40", withGrantsAndDemands(40, 0).grantAll(),
                STATE);
        Check.due("grantAll() at 40", withGrantsAndDemands(40, 1).grantAll(), FULL);
        LimitBank bank = withGrantsAndDemands(1, 1);
        bank.setResource(0, false, 1);
        Check.due("grantAll() of what does not fit", bank.grantAll(), STATE);
    }

    /** Promise 14: "BAD if there is no such grant, or not any more." */
    private static void releaseOfNoGrant() {
        LimitBank bank = withGrantsAndDemands(3, 0);
        for (int grant : new int[] {Integer.MIN_VALUE, NONE, -1, 3, 40, Integer.MAX_VALUE}) {
            Check.due("release(" + grant + ")", bank.release(grant), BAD);
        }
        Check.due("release(2)", bank.release(2), 2);
        Check.due("release(2) again", bank.release(2), BAD);
        Check.due("release(0)", bank.release(0), 1);
        Check.due("release(0) again", bank.release(0), BAD);
        Check.due("release(1), the only one", bank.release(1), 0);
        Check.due("release(1) again", bank.release(1), BAD);
        bank.undo();
        Check.due("release(1) after undo()", bank.release(1), 0);
    }

    /** Promise 18: "ticks: 1 to 999" */
    private static void passHasBounds() {
        LimitBank bank = new LimitBank();
        for (int ticks : new int[] {Integer.MIN_VALUE, -1, 0, 1000, Integer.MAX_VALUE}) {
            Check.due("pass(" + ticks + ")", bank.pass(ticks), BAD);
        }
        Check.due("count(0)", bank.count(0), 0);
        Check.due("pass(1)", bank.pass(1), 0);
        Check.due("pass(999)", bank.pass(999), 0);
        Check.due("count(0)", bank.count(0), 1000);
    }

    /** "Returns the number of bankrupt tenants then": behind the last one of the ticks. */
    private static void passTellsTheBankruptsThen() {
        int[] then = {2, 2, 2, 1, 0, 0};
        for (int ticks = 1; ticks <= 6; ticks++) {
            LimitBank bank = Check.bank(0, 100, 1, 1, 1);
            bank.borrow(0, 0, 10);
            bank.borrow(2, 0, 10);
            Check.due("pass(" + ticks + ")", bank.pass(ticks), then[ticks - 1]);
            Check.due("count(4)", bank.count(4), then[ticks - 1]);
            Check.due("count(7)", bank.count(7), 2);
        }
    }

    /** Promises 20, 21, 22 and 28: what each number means, and no others. */
    private static void whatHasBounds() {
        LimitBank bank = Check.bank(30, 40, 5);
        for (int what : new int[] {Integer.MIN_VALUE, -1, Integer.MAX_VALUE}) {
            Check.due("resource(3, " + what + ")", bank.resource(3, what), BAD);
            Check.due("tenant(0, " + what + ")", bank.tenant(0, what), BAD);
            Check.due("account(0, 3, " + what + ")", bank.account(0, 3, what), BAD);
            Check.due("granted(0, " + what + ")", bank.granted(0, what), BAD);
            Check.due("demanded(0, " + what + ")", bank.demanded(0, what), BAD);
            Check.due("count(" + what + ")", bank.count(what), BAD);
        }
        Check.due("resource(3, 0)", bank.resource(3, 0), 30);
        Check.due("resource(3, 5)", bank.resource(3, 5), 0);
        Check.due("resource(3, 6)", bank.resource(3, 6), BAD);
        Check.due("tenant(0, 0)", bank.tenant(0, 0), 5);
        Check.due("tenant(0, 7)", bank.tenant(0, 7), NONE);
        Check.due("tenant(0, 8)", bank.tenant(0, 8), BAD);
        Check.due("account(0, 3, 0)", bank.account(0, 3, 0), 0);
        Check.due("account(0, 3, 3)", bank.account(0, 3, 3), 0);
        Check.due("account(0, 3, 4)", bank.account(0, 3, 4), BAD);
        Check.due("count(9)", bank.count(9), 0);
        Check.due("count(10)", bank.count(10), BAD);
    }

    /** Promise 20: "4 for the sum of all limits of it, 5 for that of all loans" */
    private static void sumsAreOfAllTenants() {
        LimitBank bank = Check.bank(9, 999);
        Check.due("no limits", bank.resource(2, 4), 0);
        Check.due("no loans", bank.resource(2, 5), 0);
        for (int t = 0; t < 6; t++) {
            bank.addTenant(9);
            Check.due("borrow", bank.borrow(t, 2, 90), 90);
            Check.due("setLimit", bank.setLimit(t, 2, 9999), 90);
            Check.due("the greatest limits", bank.resource(2, 4), 9999 * (t + 1));
            Check.due("the greatest loans", bank.resource(2, 5), 90 * (t + 1));
            bank.setLimit(t, 1, 1 << t);
        }
        Check.due("the sum of the other limits", bank.resource(1, 4), 63);
        Check.due("the sum of no limits", bank.resource(0, 4) + bank.resource(3, 4), 0);
        Check.due("the sum of no loans", bank.resource(1, 5) + bank.resource(3, 5), 0);
    }

    /** Promise 21: "(NONE if it is solvent)", "(NONE if it never was; it stays when ...)" */
    private static void placesAndTimesAreToldOrNone() {
        LimitBank bank = fallen(2);
        Check.due("place of a bankrupt", bank.tenant(0, 6), 0);
        Check.due("time of a bankrupt, behind that tick", bank.tenant(0, 7), 1);
        Check.due("place of a solvent one", bank.tenant(1, 6), NONE);
        Check.due("time of a solvent one", bank.tenant(1, 7), NONE);
        Check.due("pass(2)", bank.pass(2), 0);
        Check.due("place of one that is solvent again", bank.tenant(0, 6), NONE);
        Check.due("time of one that is solvent again", bank.tenant(0, 7), 1);
        bank.borrow(0, 0, 10);
        Check.due("pass(1)", bank.pass(1), 1);
        Check.due("the last time", bank.tenant(0, 7), 4);
        Check.due("count(7)", bank.count(7), 2);
        bank.undo();
        Check.due("the last time after undo()", bank.tenant(0, 7), 1);
        Check.due("count(7) after undo()", bank.count(7), 1);
    }

    /** Promise 23: "BAD if grant is negative"; "NONE if there is no such grant, or not any more" */
    private static void grantedOfNone() {
        LimitBank bank = withGrantsAndDemands(2, 0);
        for (int what = 0; what <= 4; what++) {
            Check.due("granted(-1, what)", bank.granted(-1, what), BAD);
            Check.due("granted(least, what)", bank.granted(Integer.MIN_VALUE, what), BAD);
            Check.due("granted(2, what)", bank.granted(2, what), NONE);
            Check.due("granted(greatest, what)", bank.granted(Integer.MAX_VALUE, what), NONE);
        }
        Check.due("granted(0, 0)", bank.granted(0, 0), 1);
        Check.due("granted(1, 4)", bank.granted(1, 4), 0);
        Check.due("granted(0, 5)", bank.granted(0, 5), BAD);
        Check.due("granted(2, 5)", bank.granted(2, 5), BAD);
        bank.release(0);
        Check.due("granted(0, 0) after release", bank.granted(0, 0), NONE);
        Check.due("granted(1, 0)", bank.granted(1, 0), 1);
    }

    /** Promise 24: "BAD if i is negative ...; NONE if there are not so many." */
    private static void demandedOfNone() {
        LimitBank bank = withGrantsAndDemands(0, 2);
        for (int what = 0; what <= 4; what++) {
            Check.due("demanded(-1, what)", bank.demanded(-1, what), BAD);
            Check.due("demanded(least, what)", bank.demanded(Integer.MIN_VALUE, what), BAD);
            Check.due("demanded(2, what)", bank.demanded(2, what), NONE);
            Check.due("demanded(24, what)", bank.demanded(24, what), NONE);
            Check.due("demanded(greatest, what)", bank.demanded(Integer.MAX_VALUE, what), NONE);
        }
        Check.due("demanded(1, 0)", bank.demanded(1, 0), 1);
        Check.due("demanded(1, 4)", bank.demanded(1, 4), 0);
        Check.due("demanded(1, 5)", bank.demanded(1, 5), BAD);
        Check.due("demanded(2, 5)", bank.demanded(2, 5), BAD);
        bank.withdraw(0);
        Check.due("demanded(1, 0) after withdraw", bank.demanded(1, 0), NONE);
    }

    /** Promise 25: "or -1 for the number of grants"; "BAD if i is less than -1; NONE if ..." */
    private static void planHasBounds() {
        LimitBank bank = withGrantsAndDemands(0, 24);
        Check.due("plan(least)", bank.plan(Integer.MIN_VALUE), BAD);
        Check.due("plan(-2)", bank.plan(-2), BAD);
        Check.due("plan(-1)", bank.plan(-1), 24);
        Check.due("plan(0)", bank.plan(0), 0);
        Check.due("plan(23)", bank.plan(23), 0);
        Check.due("plan(24)", bank.plan(24), NONE);
        Check.due("plan(greatest)", bank.plan(Integer.MAX_VALUE), NONE);
        bank.setLimit(0, 0, 0);
        Check.due("plan(-1) of none", bank.plan(-1), 0);
        Check.due("plan(0) of none", bank.plan(0), NONE);
        Check.due("plan(1) of none", bank.plan(1), NONE);
        Check.due("plan(23) of none", bank.plan(23), NONE);
        Check.due("a plan of a bank with 40 grants", withGrantsAndDemands(40, 1).plan(-1), 0);
    }

    /** Promise 27: "Returns the number of ticks, 1 to 200; ... NONE if it would take more." */
    private static void ruinHasBounds() {
        for (int before = 180; before <= 200; before++) {
            LimitBank bank = Check.bank(0, 100, 1);
            Check.due("pass", bank.pass(before), 0);
            Check.due("borrow", bank.borrow(0, 0, 1), 1);
            int ticks = before + 7;
            Check.due("ruin(0)", bank.ruin(0), ticks <= 200 ? ticks : NONE);
            Check.due("pass to one tick less", bank.pass(ticks - 1), 0);
            Check.due("ruin(0) in one tick", bank.ruin(0), 1);
            Check.due("pass(1)", bank.pass(1), 1);
        }
    }

    /** "0 if it is bankrupt" */
    private static void ruinOfABankrupt() {
        LimitBank bank = fallen(2);
        Check.due("ruin(0) of a bankrupt", bank.ruin(0), 0);
        Check.due("ruin(1) of a solvent one", bank.ruin(1), NONE);
        bank.pass(1);
        Check.due("ruin(0) of a bankrupt", bank.ruin(0), 0);
        bank.pass(1);
        Check.due("ruin(0) of one that is solvent again", bank.ruin(0), NONE);
    }

    /** "and also beyond the time 9999." */
    private static void ruinBeyondTheTime() {
        LimitBank bank = Check.bank(9, 100, 1);
        Check.due("borrow", bank.borrow(0, 0, 5), 5);
        for (int i = 0; i < 10; i++) {
            bank.pass(999);
        }
        Check.due("points", bank.tenant(0, 1), 0);
        bank.pass(9);
        Check.due("ruin(0) at the price 1", bank.ruin(0), NONE);
        bank.setResource(0, false, 0);
        Check.due("ruin(0) at the price 10", bank.ruin(0), 2);
        Check.due("pass(1)", bank.pass(1), FULL);
        Check.due("count(0)", bank.count(0), 9999);
    }

    /** "with all that ticks do to all tenants": each fall makes the price less for the others. */
    private static void ruinOfAllTenants() {
        LimitBank bank = Check.bank(10, 200, 1, 9, 1);
        Check.setLimits(bank, 0, 5);
        Check.setLimits(bank, 2, 5);
        Check.use(bank, 0, "disk 5");
        Check.use(bank, 2, "disk 5");
        bank.borrow(0, 3, 10);
        bank.borrow(1, 3, 20);
        bank.borrow(2, 3, 5);
        int[] ticks = {bank.ruin(0), bank.ruin(1), bank.ruin(2)};
        Check.due("ruin(0): 5 - 100", ticks[0], 1);
        Check.due("ruin(2): -50, and -50 - 20 - 7", ticks[2], 2);
        Check.due("ruin(1): the price is 10, 5, and then 1", ticks[1], NONE);
        long before = bank.digest();
        Check.due("ruin(1) again", bank.ruin(1), NONE);
        Check.due("ruin() changes nothing", bank.digest(), before);
        Check.due("pass(1)", bank.pass(1), 1);
        Check.due("ruin(2)", bank.ruin(2), 1);
        Check.due("pass(1)", bank.pass(1), 2);
        Check.due("place of 2", bank.tenant(2, 6), 1);
    }

    private static BigInteger sum(BigInteger h, long v) {
        return h.multiply(BigInteger.valueOf(31)).add(BigInteger.valueOf(v));
    }

    /** Promise 29: "in long arithmetic with overflow": the exact sum, modulo 2 to the 64. */
    private static void digestOverflows() {
        LimitBank bank = new LimitBank();
        Check.type(bank, "\u007f".repeat(60));
        BigInteger h = BigInteger.valueOf(113);
        for (int what = 0; what <= 9; what++) {
            h = sum(h, bank.count(what));
        }
        for (int r = 0; r < 4; r++) {
            for (int what = 0; what <= 5; what++) {
                h = sum(h, bank.resource(r, what));
            }
        }
        h = sum(h, 0);
        for (int i = 0; i < 60; i++) {
            h = sum(h, 127);
        }
        Check.due("bits of the exact sum above 400", h.bitLength() > 400 ? 1 : 0, 1);
        Check.due("digest()", bank.digest(), h.longValue());
    }
}
