/** Promise 1, and the constants. */
final class NewBankTest {
    public static void main(String[] args) {
        Check.due("BAD", LimitBank.BAD, -1000000);
        Check.due("STATE", LimitBank.STATE, -1000001);
        Check.due("FULL", LimitBank.FULL, -1000002);
        Check.due("NONE", LimitBank.NONE, -1000003);
        LimitBank bank = new LimitBank();
        int[] counts = {0, 0, 0, 0, 0, 0, 3, 0, 0, 0};
        for (int what = 0; what < counts.length; what++) {
            Check.due("count(" + what + ")", bank.count(what), counts[what]);
        }
        int[] ofResource = {0, 0, 0, 10, 0, 0};
        for (int r = 0; r < 4; r++) {
            for (int what = 0; what < ofResource.length; what++) {
                Check.due("resource(" + r + ", " + what + ")", bank.resource(r, what),
                        ofResource[what]);
            }
        }
        Check.due("tenant(0, 0)", bank.tenant(0, 0), LimitBank.BAD);
        Check.due("fault()", bank.fault(), LimitBank.NONE);
        Check.due("clearText()", bank.clearText(), 0);
        Check.due("plan(-1)", bank.plan(-1), 0);
        Check.due("undo()", bank.undo(), LimitBank.STATE);
        twoBanksShareNothing();
        Check.end("NewBankTest");
    }

    private static void twoBanksShareNothing() {
        LimitBank one = new LimitBank();
        LimitBank other = new LimitBank();
        long before = other.digest();
        one.type('c');
        one.addTenant(3);
        one.setRest(7);
        one.setResource(0, false, 8);
        one.pass(5);
        Check.due("digest() of the other bank", other.digest(), before);
    }
}
