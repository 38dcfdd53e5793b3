import java.util.function.Supplier;

/** What every test of the project uses: due answers, and an exit code of 1 if one was missed. */
final class Check {
    private static int asDue = 0;
    private static int wrong = 0;

    private Check() {
    }

    static void due(String call, long got, long want) {
        if (got == want) {
            asDue++;
        } else {
            wrong++;
            System.out.println(call + " answered " + got + ", due is " + want);
        }
    }

    /** For tests of many random calls, where the first wrong answer says all. */
    static boolean anyWrong() {
        return wrong > 0;
    }

    static void type(LimitBank bank, String text) {
        bank.clearText();
        for (int i = 0; i < text.length(); i++) {
            due("type(" + (int) text.charAt(i) + ") in \"" + text + "\"",
                    bank.type(text.charAt(i)), i + 1);
        }
    }

    static void demand(LimitBank bank, int tenant, String text, int want) {
        type(bank, text);
        due("demand(" + tenant + ") of \"" + text + "\"", bank.demand(tenant), want);
    }

    /** A bank whose capacities and funds are the same for all resources, with some tenants. */
    static LimitBank bank(int capacity, int fund, int... weights) {
        LimitBank bank = new LimitBank();
        for (int r = 0; r < 4; r++) {
            bank.setResource(r, false, capacity);
            bank.setResource(r, true, fund);
        }
        for (int weight : weights) {
            bank.addTenant(weight);
        }
        return bank;
    }

    static void setLimits(LimitBank bank, int tenant, int units) {
        for (int r = 0; r < 4; r++) {
            due("setLimit for the test", bank.setLimit(tenant, r, units) >= 0 ? 1 : 0, 1);
        }
    }

    /** An erroneous call has to leave everything as it was. */
    static void refused(LimitBank bank, long digestBefore, String call, long got, long want) {
        due(call, got, want);
        due("digest() after " + call, bank.digest(), digestBefore);
    }

    /** A call that a test makes on several banks. */
    interface Call {
        long on(LimitBank bank);
    }

    /** As refused() above, and the history is compared with that of a bank without the call. */
    static void refused(Supplier<LimitBank> maker, String name, long want, Call call) {
        LimitBank bank = maker.get();
        due(name, call.on(bank), want);
        same(name, bank, maker.get());
    }

    /** Undoes all that can be undone in both banks, which have to tell the same all the way. */
    static void same(String after, LimitBank bank, LimitBank twin) {
        due("digest() after " + after, bank.digest(), twin.digest());
        for (int i = 1; i <= 9; i++) {
            due("undo() " + i + " after " + after, bank.undo(), twin.undo());
            due("digest() after undo() " + i + " and " + after, bank.digest(), twin.digest());
        }
    }

    /** Lets a tenant use units, by a demand that has to be the next one. */
    static void use(LimitBank bank, int tenant, String text) {
        type(bank, text);
        due("demand(" + tenant + ") of \"" + text + "\" > 0", bank.demand(tenant) > 0 ? 1 : 0, 1);
        due("grant() of \"" + text + "\"", bank.grant(), tenant);
    }

    static void end(String test) {
        System.out.println(test + ": " + asDue + " answers as due, " + wrong + " not");
        if (wrong > 0 || asDue == 0) {
            System.exit(1);
        }
    }
}
