/** What every test of the project uses: due answers, and an exit code of 1 if one was missed. */
final class Check {
    private static int asDue = 0;
    private static int wrong = 0;

    private Check() {
    }

    static void due(String call, long got, long want) {
        if (got == want) {
            asDue++;
        } else {
            wrong++;
            System.out.println(call + " answered " + got + ", due is " + want);
        }
    }

    /** For tests of many random calls, where the first wrong answer says all. */
    static boolean anyWrong() {
        return wrong > 0;
    }

    static void type(LimitBank bank, String text) {
        bank.clearText();
        for (int i = 0; i < text.length(); i++) {
            due("type(" + (int) text.charAt(i) + ") in \"" + text + "\"",
                    bank.type(text.charAt(i)), i + 1);
        }
    }

    static void demand(LimitBank bank, int tenant, String text, int want) {
        type(bank, text);
        due("demand(" + tenant + ") of \"" + text + "\"", bank.demand(tenant), want);
    }

    /** A bank whose capacities and funds are the same for all resources, with some tenants. */
    static LimitBank bank(int capacity, int fund, int... weights) {
        LimitBank bank = new LimitBank();
        for (int r = 0; r < 4; r++) {
            bank.setResource(r, false, capacity);
            bank.setResource(r, true, fund);
        }
        for (int weight : weights) {
            bank.addTenant(weight);
        }
        return bank;
    }

    static void setLimits(LimitBank bank, int tenant, int units) {
        for (int r = 0; r < 4; r++) {
            due("setLimit for the test", bank.setLimit(tenant, r, units) >= 0 ? 1 : 0, 1);
        }
    }

    /** An erroneous call has to leave everything as it was. */
    static void refused(LimitBank bank, long digestBefore, String call, long got, long want) {
        due(call, got, want);
        due("digest() after " + call, bank.digest(), digestBefore);
    }

    static void end(String test) {
        System.out.println(test + ": " + asDue + " answers as due, " + wrong + " not");
        if (wrong > 0 || asDue == 0) {
            System.exit(1);
        }
    }
}
