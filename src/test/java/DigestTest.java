/** Promise 29 (digest), and the room that calls take. */
final class DigestTest {
    public static void main(String[] args) {
        ofNew();
        ofBusy();
        ofEachPart();
        Check.end("DigestTest");
    }

    private static long h;

    private static void add(long v) {
        h = 31 * h + v;
    }

    private static long asPromised(LimitBank bank, String text) {
        h = 113;
        for (int what = 0; what <= 9; what++) {
            add(bank.count(what));
        }
        for (int r = 0; r < 4; r++) {
            for (int what = 0; what <= 5; what++) {
                add(bank.resource(r, what));
            }
        }
        for (int t = 0; t < bank.count(1); t++) {
            for (int what = 0; what <= 7; what++) {
                add(bank.tenant(t, what));
            }
            for (int r = 0; r < 4; r++) {
                for (int what = 0; what <= 3; what++) {
                    add(bank.account(t, r, what));
                }
                add(bank.worth(t, r));
            }
            add(bank.ruin(t));
        }
        for (int g = 0; g < bank.count(5); g++) {
            if (bank.granted(g, 4) != LimitBank.NONE) {
                add(g);
                for (int what = 0; what <= 4; what++) {
                    add(bank.granted(g, what));
                }
            }
        }
        for (int i = 0; i < bank.count(3); i++) {
            for (int what = 0; what <= 4; what++) {
                add(bank.demanded(i, what));
            }
        }
        for (int i = -1; i < bank.plan(-1); i++) {
            add(bank.plan(i));
        }
        for (int i = 0; i < text.length(); i++) {
            add(text.charAt(i));
        }
        return h;
    }

    private static void ofNew() {
        LimitBank bank = new LimitBank();
        long first = bank.digest();
        Check.due("digest() of a new bank", first, asPromised(bank, ""));
        Check.due("digest() again", bank.digest(), first);
    }

    private static LimitBank busyBank() {
        LimitBank bank = Check.bank(40, 100, 3, 1, 2);
        for (int t = 0; t < 3; t++) {
            Check.setLimits(bank, t, 30);
            Check.demand(bank, t, "cpu 4 mem 5", t + 1);
        }
        Check.due("grantAll()", bank.grantAll(), 3);
        Check.due("release(1)", bank.release(1), 2);
        for (int t = 0; t < 3; t++) {
            Check.demand(bank, t, "mem 1 net 2", 2 * t + 1);
            Check.demand(bank, t, "disk 99", 2 * t + 2);
        }
        Check.due("borrow", bank.borrow(1, 0, 10), 10);
        Check.due("borrow", bank.borrow(2, 1, 20), 20);
        Check.due("pass", bank.pass(4), 2);
        return bank;
    }

    private static void ofBusy() {
        LimitBank bank = busyBank();
        Check.due("digest()", bank.digest(), asPromised(bank, "disk 99"));
        Check.type(bank, "no vector");
        Check.due("digest() with another text", bank.digest(), asPromised(bank, "no vector"));
        bank.grantAll();
        Check.due("digest() after grantAll()", bank.digest(), asPromised(bank, "no vector"));
        bank.undo();
        bank.undo();
        Check.due("digest() after undo()", bank.digest(), asPromised(bank, "no vector"));
    }

    private static void ofEachPart() {
        LimitBank bank = busyBank();
        long before = bank.digest();
        bank.type('x');
        Check.due("a byte more shows", bank.digest() == before ? 1 : 0, 0);
        before = bank.digest();
        bank.setRest(4);
        Check.due("the rest shows", bank.digest() == before ? 1 : 0, 0);
    }
}
