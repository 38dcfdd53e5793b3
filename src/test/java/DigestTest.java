import java.util.function.Supplier;

/** Promise 29 (digest). */
final class DigestTest {
    public static void main(String[] args) {
        ofNew();
        ofBusy();
        ofFull();
        ofEachPart();
        Check.end("DigestTest");
    }

    private static long h;

    private static void add(long v) {
        h = 31 * h + v;
    }

    /** Each part is told by a new bank, since one alone would be asked more than 512 times. */
    private static long asPromised(Supplier<LimitBank> maker, String text) {
        h = 113;
        addNumbers(maker.get());
        for (int t = 0; t < maker.get().count(1); t++) {
            addTenant(maker.get(), t);
        }
        addGrants(maker.get());
        LimitBank bank = maker.get();
        for (int i = 0; i < bank.count(3); i++) {
            for (int what = 0; what <= 4; what++) {
                add(bank.demanded(i, what));
            }
        }
        int planned = maker.get().plan(-1);
        bank = maker.get();
        for (int i = -1; i < planned; i++) {
            add(bank.plan(i));
        }
        for (int i = 0; i < text.length(); i++) {
            add(text.charAt(i));
        }
        return h;
    }

    private static void addNumbers(LimitBank bank) {
        for (int what = 0; what <= 9; what++) {
            add(bank.count(what));
        }
        for (int r = 0; r < 4; r++) {
            for (int what = 0; what <= 5; what++) {
                add(bank.resource(r, what));
            }
        }
    }

    private static void addTenant(LimitBank bank, int t) {
        for (int what = 0; what <= 7; what++) {
            add(bank.tenant(t, what));
        }
        for (int r = 0; r < 4; r++) {
            for (int what = 0; what <= 3; what++) {
                add(bank.account(t, r, what));
            }
            add(bank.worth(t, r));
        }
        add(bank.ruin(t));
    }

    private static void addGrants(LimitBank bank) {
        int next = bank.count(5);
        for (int g = 0; g < next; g++) {
            if (bank.granted(g, 4) != LimitBank.NONE) {
                add(g);
                for (int what = 0; what <= 4; what++) {
                    add(bank.granted(g, what));
                }
            }
        }
    }

    private static void ofNew() {
        LimitBank bank = new LimitBank();
        long first = bank.digest();
        Check.due("digest() of a new bank", first, asPromised(LimitBank::new, ""));
        Check.due("digest() again", bank.digest(), first);
    }

    private static LimitBank busyBank() {
        LimitBank bank = Check.bank(40, 100, 3, 1, 2);
        for (int t = 0; t < 3; t++) {
            Check.setLimits(bank, t, 30);
            Check.demand(bank, t, "cpu 4 mem 5", t + 1);
        }
        Check.due("grantAll()", bank.grantAll(), 3);
        Check.due("release(1)", bank.release(1), 2);
        for (int t = 0; t < 3; t++) {
            Check.demand(bank, t, "mem 1 net 2", 2 * t + 1);
            Check.demand(bank, t, "disk 99", 2 * t + 2);
        }
        Check.due("borrow", bank.borrow(1, 0, 10), 10);
        Check.due("borrow", bank.borrow(2, 1, 20), 20);
        Check.due("pass", bank.pass(4), 2);
        return bank;
    }

    private static void promised(String of, Supplier<LimitBank> maker, String text) {
        Check.due("digest() of " + of, maker.get().digest(), asPromised(maker, text));
    }

    private static LimitBank changed(String text, Check.Call... calls) {
        LimitBank bank = busyBank();
        for (Check.Call each : calls) {
            each.on(bank);
        }
        Check.type(bank, text);
        return bank;
    }

    private static void ofBusy() {
        promised("a busy bank", DigestTest::busyBank, "disk 99");
        promised("another text", () -> changed("no vector"), "no vector");
        promised("more grants", () -> changed("", LimitBank::grantAll), "");
        promised("less grants", () -> changed(" ", b -> b.release(0)), " ");
        promised("no more bankrupts", () -> changed("", LimitBank::undo, LimitBank::undo), "");
        promised("a later time", () -> changed("x", b -> b.pass(9), b -> b.undo()), "x");
    }

    /** As many tenants, grants, demands, planned grants and bytes as there can be. */
    private static void ofFull() {
        String full = "disk 01" + " ".repeat(53);
        promised("40 grants, 24 demands", () -> fullBank(40, full), full);
        promised("24 planned grants", () -> fullBank(16, full), full);
        promised("23 planned grants, as 40 are the most", () -> fullBank(17, full), full);
    }

    private static LimitBank fullBank(int grants, String text) {
        LimitBank bank = Check.bank(999, 999, 9, 8, 7, 6, 5, 4);
        for (int t = 0; t < 6; t++) {
            Check.setLimits(bank, t, 9960 - 40 * t);
            Check.due("borrow", bank.borrow(t, t % 4, 39 - t), 39 - t);
        }
        Check.type(bank, "cpu 1 mem 2");
        for (int i = 0; i < grants; i++) {
            bank.demand(i % 6);
            Check.due("grant()", bank.grant(), i % 6);
        }
        Check.type(bank, text);
        for (int i = 1; i <= 24; i++) {
            Check.due("demand", bank.demand(i % 6), i);
        }
        return bank;
    }

    private static void ofEachPart() {
        LimitBank bank = busyBank();
        long before = bank.digest();
        bank.type('x');
        Check.due("a byte more shows", bank.digest() == before ? 1 : 0, 0);
        before = bank.digest();
        bank.setRest(4);
        Check.due("the rest shows", bank.digest() == before ? 1 : 0, 0);
    }
}
