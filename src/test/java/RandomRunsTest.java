import java.util.Random;

/** Runs of some 500 calls with fixed seeds, each answer compared with that of PlainBank. */
final class RandomRunsTest {
    private static final int RUNS = 600;
    private static final int[] ODD = {-1, Integer.MIN_VALUE, Integer.MAX_VALUE, 4, 5, 6, 10, 1000,
        10000, LimitBank.NONE, LimitBank.BAD};
    private static final String[] NAMES = {"cpu", "mem", "net", "disk"};

    private final Random random;
    private final LimitBank bank = new LimitBank();
    private final PlainBank plain = new PlainBank();
    private final int seed;
    /** How many units are ordinary in this run: small banks are full, large ones are not. */
    private final int scale;
    private final boolean wild;
    private int calls = 0;

    private RandomRunsTest(int seed) {
        this.seed = seed;
        random = new Random(seed);
        scale = new int[] {8, 30, 99, 300}[seed % 4];
        wild = seed % 3 == 0;
    }

    public static void main(String[] args) {
        for (int seed = 0; seed < RUNS && !Check.anyWrong(); seed++) {
            new RandomRunsTest(seed).run();
        }
        System.out.println("seen: " + falls + " bankruptcies, " + grants + " grants, " + fulls
                + " answers of FULL, " + states + " of STATE, " + ruins + " ruins foretold");
        Check.due("enough of each was seen", Math.min(Math.min(falls, grants),
                Math.min(Math.min(fulls, states), ruins)) > RUNS ? 1 : 0, 1);
        Check.end("RandomRunsTest");
    }

    private static long falls, grants, fulls, states, ruins;

    private void run() {
        setUp();
        // The last round can be of ten calls, and no bank is asked more than 512 times.
        while (calls < 500 && !Check.anyWrong()) {
            oneCall();
            if (random.nextInt(4) == 0) {
                due("digest()", bank.digest(), plain.digest());
            }
        }
        falls += plain.count(7);
        grants += plain.count(5);
    }

    private void due(String call, long got, long want) {
        calls++;
        fulls += want == LimitBank.FULL ? 1 : 0;
        states += want == LimitBank.STATE ? 1 : 0;
        Check.due("seed " + seed + ", call " + calls + ", " + call, got, want);
    }

    private void setUp() {
        for (int r = 0; r < 4; r++) {
            int capacity = random.nextInt(scale + 1);
            int fund = random.nextInt(3) == 0 ? 900 + random.nextInt(100) : random.nextInt(300);
            due("setResource", bank.setResource(r, false, capacity),
                    plain.setResource(r, false, capacity));
            due("setResource", bank.setResource(r, true, fund), plain.setResource(r, true, fund));
        }
        int tenants = random.nextInt(7);
        for (int t = 0; t < tenants; t++) {
            int weight = 1 + random.nextInt(random.nextBoolean() ? 2 : 9);
            due("addTenant", bank.addTenant(weight), plain.addTenant(weight));
            for (int r = 0; r < 4; r++) {
                int limit = limit();
                due("setLimit", bank.setLimit(t, r, limit), plain.setLimit(t, r, limit));
            }
        }
        typeText();
    }

    private int odd(int ordinary) {
        return wild && random.nextInt(12) == 0 ? ODD[random.nextInt(ODD.length)] : ordinary;
    }

    private int some(int least, int most) {
        return odd(least + random.nextInt(most - least + 1));
    }

    private int tenant() {
        int tenants = plain.count(1);
        return odd(tenants == 0 ? random.nextInt(2) : random.nextInt(tenants));
    }

    private int limit() {
        int which = random.nextInt(12);
        return odd(which == 0 ? 9950 + random.nextInt(50) : which == 1 ? random.nextInt(10000)
                : scale / 4 + random.nextInt(scale + 1));
    }

    private int units() {
        return odd(1 + random.nextInt(random.nextInt(9) == 0 ? 999 : scale / 2));
    }

    private void typeText() {
        due("clearText()", bank.clearText(), plain.clearText());
        StringBuilder text = new StringBuilder();
        int pairs = 1 + random.nextInt(random.nextInt(3) + 1);
        int first = random.nextInt(4);
        for (int i = 0; i < pairs; i++) {
            text.append(random.nextInt(3) == 0 ? " " : "");
            text.append(NAMES[(first + i) % 4]).append(random.nextInt(3) == 0 ? "" : " ");
            text.append(random.nextInt(random.nextInt(7) == 0 ? 100 : 2 + Math.min(98, scale / 8)));
        }
        if (random.nextInt(7) == 0) {
            spoil(text);
        }
        for (int i = 0; i < text.length() && i < 62 && calls < 500; i++) {
            char letter = text.charAt(i);
            due("type(" + (int) letter + ")", bank.type(letter), plain.type(letter));
        }
        due("fault() of \"" + text + "\"", bank.fault(), plain.fault());
    }

    private void spoil(StringBuilder text) {
        String letters = "cpumenetdisk0123456789   azA{`/:\u0000\u007f";
        int times = 1 + random.nextInt(3);
        for (int i = 0; i < times && text.length() > 0; i++) {
            int at = random.nextInt(text.length());
            char letter = letters.charAt(random.nextInt(letters.length()));
            switch (random.nextInt(4)) {
                case 0: text.setCharAt(at, letter); break;
                case 1: text.insert(at, letter); break;
                case 2: text.deleteCharAt(at); break;
                default: text.setLength(at); break;
            }
        }
    }

    private void oneCall() {
        int which = random.nextInt(100);
        if (which < 6) {
            typeText();
        } else if (which < 36) {
            int t = tenant();
            due("demand(" + t + ")", bank.demand(t), plain.demand(t));
        } else if (which < 58) {
            serve();
        } else if (which < 72) {
            trade();
        } else if (which < 80) {
            pass();
        } else if (which < 85) {
            due("undo()", bank.undo(), plain.undo());
        } else if (which < 94) {
            set();
        } else {
            ask();
        }
    }

    private void serve() {
        switch (random.nextInt(6)) {
            case 0:
            case 1:
                due("grant()", bank.grant(), plain.grant());
                break;
            case 2:
            case 3:
                due("grantAll()", bank.grantAll(), plain.grantAll());
                break;
            case 4:
                int t = tenant();
                due("withdraw(" + t + ")", bank.withdraw(t), plain.withdraw(t));
                break;
            default:
                int g = odd(Math.max(0, plain.count(5) - 1 - random.nextInt(30)));
                due("release(" + g + ")", bank.release(g), plain.release(g));
                break;
        }
    }

    private void trade() {
        int t = tenant();
        int r = some(0, 3);
        int other = some(0, 3);
        int n = units();
        switch (random.nextInt(5)) {
            case 0:
            case 1:
                due("exchange(" + t + ", " + r + ", " + other + ", " + n + ")",
                        bank.exchange(t, r, other, n), plain.exchange(t, r, other, n));
                break;
            case 2:
                due("repay(" + t + ", " + r + ", " + n + ")", bank.repay(t, r, n),
                        plain.repay(t, r, n));
                break;
            default:
                n = odd(1 + random.nextInt(12));
                due("borrow(" + t + ", " + r + ", " + n + ")", bank.borrow(t, r, n),
                        plain.borrow(t, r, n));
                break;
        }
    }

    private void pass() {
        int which = random.nextInt(10);
        int ticks = which < 6 ? some(1, 2) : which < 9 ? some(1, 12) : some(1, 999);
        due("pass(" + ticks + ")", bank.pass(ticks), plain.pass(ticks));
    }

    private void set() {
        int t = tenant();
        int r = some(0, 3);
        switch (random.nextInt(6)) {
            case 0:
                int capacity = odd(random.nextInt(scale + 1));
                due("setResource(" + r + ", false, " + capacity + ")",
                        bank.setResource(r, false, capacity),
                        plain.setResource(r, false, capacity));
                break;
            case 1:
                int fund = some(0, 999);
                due("setResource(" + r + ", true, " + fund + ")",
                        bank.setResource(r, true, fund), plain.setResource(r, true, fund));
                break;
            case 2:
                int rest = random.nextInt(4) == 0 ? some(1, 99) : some(1, 9);
                due("setRest(" + rest + ")", bank.setRest(rest), plain.setRest(rest));
                break;
            case 3:
                int weight = some(1, 9);
                due("setWeight(" + t + ", " + weight + ")", bank.setWeight(t, weight),
                        plain.setWeight(t, weight));
                break;
            case 4:
                int limit = limit();
                due("setLimit(" + t + ", " + r + ", " + limit + ")", bank.setLimit(t, r, limit),
                        plain.setLimit(t, r, limit));
                break;
            default:
                int added = some(1, 9);
                due("addTenant(" + added + ")", bank.addTenant(added), plain.addTenant(added));
                break;
        }
    }

    private void ask() {
        int t = tenant();
        int r = some(0, 3);
        int what = some(-1, 10);
        int i = some(-2, 50);
        int ruin = plain.ruin(t);
        ruins += ruin > 0 ? 1 : 0;
        due("ruin(" + t + ")", bank.ruin(t), ruin);
        due("worth(" + t + ", " + r + ")", bank.worth(t, r), plain.worth(t, r));
        due("plan(" + i + ")", bank.plan(i), plain.plan(i));
        due("count(" + what + ")", bank.count(what), plain.count(what));
        due("resource(" + r + ", " + what + ")", bank.resource(r, what), plain.resource(r, what));
        due("tenant(" + t + ", " + what + ")", bank.tenant(t, what), plain.tenant(t, what));
        due("account(" + t + ", " + r + ", " + what + ")", bank.account(t, r, what),
                plain.account(t, r, what));
        due("granted(" + i + ", " + what + ")", bank.granted(i, what), plain.granted(i, what));
        due("demanded(" + i + ", " + what + ")", bank.demanded(i, what),
                plain.demanded(i, what));
    }
}
