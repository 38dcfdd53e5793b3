/** Promises 10 (demand), 11 (withdraw) and 24 (demanded). */
final class DemandTest {
    public static void main(String[] args) {
        demands();
        resourcesWithoutNames();
        refusals();
        fullQueue();
        withdrawals();
        told();
        Check.end("DemandTest");
    }

    private static void row(LimitBank bank, int i, int... want) {
        for (int what = 0; what <= 4; what++) {
            Check.due("demanded(" + i + ", " + what + ")", bank.demanded(i, what), want[what]);
        }
    }

    private static void demands() {
        LimitBank bank = Check.bank(0, 0, 1, 1);
        Check.demand(bank, 1, "disk 4 net 03 mem 20 cpu 1", 1);
        Check.due("the text stays", bank.count(9), 26);
        Check.due("demand(0) of the same text", bank.demand(0), 2);
        Check.demand(bank, 1, "cpu 0 net99", 3);
        row(bank, 0, 1, 20, 3, 4, 1);
        row(bank, 1, 1, 20, 3, 4, 0);
        row(bank, 2, 0, 0, 99, 0, 1);
        Check.demand(bank, 0, "disk 1", 4);
        row(bank, 3, 0, 0, 0, 1, 0);
        Check.due("withdraw(0)", bank.withdraw(0), 3);
        Check.due("withdraw(0)", bank.withdraw(0), 2);
        Check.type(bank, "cpu 1");
        bank.undo();
        row(bank, 1, 0, 0, 99, 0, 1);
        row(bank, 2, 0, 0, 0, 1, 0);
        row(bank, 3, LimitBank.NONE, LimitBank.NONE, LimitBank.NONE, LimitBank.NONE,
                LimitBank.NONE);
        Check.due("count(3)", bank.count(3), 3);
        Check.due("tenant(1, 5)", bank.tenant(1, 5), 2);
        Check.due("tenant(0, 5)", bank.tenant(0, 5), 1);
    }

    private static void resourcesWithoutNames() {
        LimitBank bank = Check.bank(0, 0, 1);
        Check.demand(bank, 0, "cpu 5 mem 6 net 7 disk 8", 1);
        Check.demand(bank, 0, "mem 1", 2);
        Check.demand(bank, 0, "cpu 1", 3);
        row(bank, 0, 5, 6, 7, 8, 0);
        row(bank, 1, 0, 1, 0, 0, 0);
        row(bank, 2, 1, 0, 0, 0, 0);
    }

    private static void refusals() {
        LimitBank bank = Check.bank(10, 0, 1);
        Check.type(bank, "cpu 1");
        long before = bank.digest();
        int[] wrong = {-1, 1, 6, Integer.MIN_VALUE, Integer.MAX_VALUE};
        for (int tenant : wrong) {
            Check.refused(bank, before, "demand(" + tenant + ")", bank.demand(tenant),
                    LimitBank.BAD);
        }
        String[] texts = {"", "   ", "cpu", "cpu 100", "cpu 0", "cpu 00 mem 0 net 0 disk 0",
            "cpu 5 cpu 5", "cpu 5 x"};
        for (String text : texts) {
            Check.type(bank, text);
            before = bank.digest();
            Check.refused(bank, before, "demand(0) of \"" + text + "\"", bank.demand(0),
                    LimitBank.STATE);
            Check.refused(bank, before, "demand(1) of \"" + text + "\"", bank.demand(1),
                    LimitBank.BAD);
        }
    }

    private static void fullQueue() {
        LimitBank bank = Check.bank(10, 0, 1, 1);
        for (int i = 1; i <= 24; i++) {
            Check.demand(bank, i % 2, "cpu " + i, i);
        }
        long before = bank.digest();
        Check.refused(bank, before, "demand 25", bank.demand(0), LimitBank.FULL);
        Check.refused(bank, before, "demand 25 of none", bank.demand(2), LimitBank.BAD);
        Check.type(bank, "cpu 0");
        Check.due("demand 25 of no units", bank.demand(0), LimitBank.STATE);
        row(bank, 23, 24, 0, 0, 0, 0);
        Check.due("demanded(24, 0)", bank.demanded(24, 0), LimitBank.NONE);
        Check.due("withdraw(1)", bank.withdraw(1), 23);
        row(bank, 22, 24, 0, 0, 0, 0);
        Check.due("demanded(23, 0)", bank.demanded(23, 0), LimitBank.NONE);
        Check.demand(bank, 1, "cpu 9", 24);
    }

    private static void withdrawals() {
        LimitBank bank = Check.bank(0, 0, 1, 1, 1);
        Check.demand(bank, 0, "cpu 1", 1);
        Check.demand(bank, 1, "cpu 2", 2);
        Check.demand(bank, 0, "cpu 3", 3);
        Check.demand(bank, 1, "cpu 4", 4);
        Check.due("withdraw(1)", bank.withdraw(1), 3);
        row(bank, 0, 1, 0, 0, 0, 0);
        row(bank, 1, 3, 0, 0, 0, 0);
        row(bank, 2, 4, 0, 0, 0, 1);
        Check.due("withdraw(1)", bank.withdraw(1), 2);
        long before = bank.digest();
        Check.refused(bank, before, "withdraw(1) of none", bank.withdraw(1), LimitBank.STATE);
        Check.refused(bank, before, "withdraw(2)", bank.withdraw(2), LimitBank.STATE);
        Check.refused(bank, before, "withdraw(3)", bank.withdraw(3), LimitBank.BAD);
        Check.refused(bank, before, "withdraw(-1)", bank.withdraw(-1), LimitBank.BAD);
        Check.due("withdraw(0)", bank.withdraw(0), 1);
        Check.due("withdraw(0)", bank.withdraw(0), 0);
        Check.due("withdraw(0)", bank.withdraw(0), LimitBank.STATE);
    }

    private static void told() {
        LimitBank bank = Check.bank(0, 0, 1);
        Check.demand(bank, 0, "cpu 1", 1);
        Check.due("demanded(-1, 0)", bank.demanded(-1, 0), LimitBank.BAD);
        Check.due("demanded(least, 0)", bank.demanded(Integer.MIN_VALUE, 0), LimitBank.BAD);
        Check.due("demanded(0, -1)", bank.demanded(0, -1), LimitBank.BAD);
        Check.due("demanded(0, 5)", bank.demanded(0, 5), LimitBank.BAD);
        Check.due("demanded(7, 5)", bank.demanded(7, 5), LimitBank.BAD);
        Check.due("demanded(1, 4)", bank.demanded(1, 4), LimitBank.NONE);
        Check.due("demanded(greatest, 4)", bank.demanded(Integer.MAX_VALUE, 4), LimitBank.NONE);
    }
}
