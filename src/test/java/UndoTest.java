import java.util.ArrayList;
import java.util.List;

/** Promise 19 (undo), and which calls are changes. */
final class UndoTest {
    public static void main(String[] args) {
        none();
        eachChangeIsUndone();
        onlyEightAreKept();
        changesThatChangeNothing();
        errorsAndQuestionsAreNoChanges();
        Check.end("UndoTest");
    }

    private static void none() {
        LimitBank bank = new LimitBank();
        long before = bank.digest();
        Check.refused(bank, before, "undo()", bank.undo(), LimitBank.STATE);
    }

    /** All that is told, but for the history and the text. */
    private static String picture(LimitBank bank) {
        List<Long> told = new ArrayList<>();
        for (int what = 0; what <= 7; what++) {
            told.add((long) bank.count(what));
        }
        for (int r = 0; r < 4; r++) {
            for (int what = 0; what <= 5; what++) {
                told.add((long) bank.resource(r, what));
            }
        }
        for (int t = 0; t < 6; t++) {
            for (int what = 0; what <= 7; what++) {
                told.add((long) bank.tenant(t, what));
            }
            for (int r = 0; r < 4; r++) {
                for (int what = 0; what <= 3; what++) {
                    told.add((long) bank.account(t, r, what));
                }
            }
        }
        for (int i = 0; i < 6; i++) {
            for (int what = 0; what <= 4; what++) {
                told.add((long) bank.granted(i, what));
                told.add((long) bank.demanded(i, what));
            }
        }
        return told.toString();
    }

    private static LimitBank busyBank() {
        LimitBank bank = Check.bank(50, 100, 1, 2);
        Check.setLimits(bank, 0, 40);
        Check.setLimits(bank, 1, 40);
        Check.demand(bank, 0, "cpu 9 mem 9", 1);
        Check.demand(bank, 1, "cpu 8 disk 3", 2);
        Check.due("grantAll()", bank.grantAll(), 2);
        Check.demand(bank, 0, "mem 7", 1);
        Check.demand(bank, 1, "net 6", 2);
        Check.due("borrow(0, 0, 10)", bank.borrow(0, 0, 10), 10);
        return bank;
    }

    private static int change(LimitBank bank, int which) {
        switch (which) {
            case 0: return bank.setResource(0, false, 60);
            case 1: return bank.setResource(3, true, 60);
            case 2: return bank.setRest(9);
            case 3: return bank.addTenant(5);
            case 4: return bank.setWeight(1, 9);
            case 5: return bank.setLimit(1, 1, 77);
            case 6: return bank.demand(0);
            case 7: return bank.withdraw(1);
            case 8: return bank.grant();
            case 9: return bank.grantAll();
            case 10: return bank.release(0);
            case 11: return bank.exchange(1, 0, 1, 5);
            case 12: return bank.borrow(1, 2, 5);
            case 13: return bank.repay(0, 0, 5);
            default: return bank.pass(30);
        }
    }

    private static void eachChangeIsUndone() {
        // Each picture is of a bank of its own, since one alone would be asked more than 512 times.
        String before = picture(busyBank());
        for (int which = 0; which <= 14; which++) {
            LimitBank changed = busyBank();
            Check.due("change " + which, change(changed, which) >= 0 ? 1 : 0, 1);
            Check.due("change " + which + " shows", picture(changed).equals(before) ? 1 : 0, 0);
            LimitBank undone = busyBank();
            change(undone, which);
            Check.due("undo() of change " + which, undone.undo(), 7);
            Check.due("undo() of change " + which + " restores",
                    picture(undone).equals(before) ? 1 : 0, 1);
        }
        LimitBank bank = busyBank();
        bank.pass(30);
        Check.due("a bankruptcy is undone, too", bank.count(7), 1);
        bank.undo();
        Check.due("count(7)", bank.count(7), 0);
        Check.due("tenant(0, 7)", bank.tenant(0, 7), LimitBank.NONE);
    }

    private static void onlyEightAreKept() {
        LimitBank bank = new LimitBank();
        bank.addTenant(1);
        for (int i = 1; i <= 12; i++) {
            bank.setLimit(0, 0, i);
            Check.due("count(8)", bank.count(8), Math.min(i + 1, 8));
        }
        for (int i = 11; i >= 4; i--) {
            Check.due("undo()", bank.undo(), i - 4);
            Check.due("limit", bank.account(0, 0, 0), i);
        }
        Check.due("undo() of no more", bank.undo(), LimitBank.STATE);
        Check.due("limit", bank.account(0, 0, 0), 4);
        bank.setLimit(0, 0, 50);
        bank.setLimit(0, 0, 60);
        Check.due("undo()", bank.undo(), 1);
        Check.due("limit", bank.account(0, 0, 0), 50);
        bank.setLimit(0, 0, 70);
        Check.due("undo()", bank.undo(), 1);
        Check.due("undo()", bank.undo(), 0);
        Check.due("limit", bank.account(0, 0, 0), 4);
    }

    private static void changesThatChangeNothing() {
        LimitBank bank = new LimitBank();
        bank.addTenant(4);
        bank.setWeight(0, 4);
        bank.setRest(3);
        bank.setLimit(0, 0, 0);
        bank.setResource(2, true, 0);
        Check.due("count(8)", bank.count(8), 5);
        Check.due("undo()", bank.undo(), 4);
    }

    private static void errorsAndQuestionsAreNoChanges() {
        LimitBank bank = busyBank();
        for (int i = 0; i < 5; i++) {
            bank.undo();
        }
        Check.due("count(8)", bank.count(8), 3);
        bank.type('x');
        bank.fault();
        bank.demand(0);
        bank.clearText();
        bank.plan(-1);
        bank.ruin(0);
        bank.worth(0, 0);
        bank.digest();
        bank.setRest(0);
        bank.release(99);
        Check.due("count(8)", bank.count(8), 3);
    }
}
