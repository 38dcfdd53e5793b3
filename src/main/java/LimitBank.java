/**
 * A bank of limits for several resources: tenants have limits, exchange them at rates that depend
 * on scarcity, borrow with interest, go bankrupt, and are granted what they demand by their
 * dominant shares.
 */
public final class LimitBank {
    public static final int BAD = -1000000, STATE = -1000001, FULL = -1000002;
    public static final int NONE = -1000003;

    private static final int RESOURCES = 4;
    private static final int MOST_TENANTS = 6;
    private static final int MOST_GRANTS = 40;
    private static final int MOST_DEMANDS = 24;
    private static final int MOST_STATES = 8;
    private static final int MOST_BYTES = 60;
    private static final int LAST_BYTE = 127;
    private static final int MOST_WEIGHT = 9;
    private static final int MOST_LIMIT = 9999;
    private static final int MOST_VALUE = 999;
    private static final int MOST_AT_ONCE = 999;
    private static final int MOST_REST = 99;
    private static final int FIRST_REST = 3;
    private static final int LAST_TIME = 9999;
    private static final int TICKS_FORETOLD = 200;
    private static final int TOP_PRICE = 10;
    private static final int LOANS_PER_WEIGHT = 10;
    private static final int POINTS_PER_WEIGHT = 5;
    private static final int DEBT_PER_WEIGHT = 50;

    /** The columns of a claim behind its units of the four resources. */
    private static final int OWNER = 4, NUMBER = 5, COLUMNS = 6;

    private final VectorText text;
    private final Ledger now;
    /** The books that plans and forecasts are tried on, so that those calls make no objects. */
    private final Ledger trial;
    private final History history;
    private final int[] served;
    private final int[] ticksToRuin;

    public LimitBank() {
        text = new VectorText();
        now = new Ledger();
        trial = new Ledger();
        history = new History();
        served = new int[MOST_DEMANDS];
        ticksToRuin = new int[MOST_TENANTS];
    }

    // ---- text

    public int type(int letter) {
        if (!within(letter, 0, LAST_BYTE)) {
            return BAD;
        }
        return text.append(letter) ? text.length : FULL;
    }

    public int clearText() {
        int before = text.length;
        text.length = 0;
        return before;
    }

    public int fault() {
        return text.read();
    }

    // ---- changes

    public int setResource(int resource, boolean fund, int value) {
        if (!isResource(resource) || !within(value, 0, MOST_VALUE)) {
            return BAD;
        }
        if (!fund && value < now.used[resource]) {
            return STATE;
        }
        history.keep(now);
        int[] values = fund ? now.fund : now.capacity;
        int before = values[resource];
        values[resource] = value;
        return before;
    }

    public int setRest(int ticks) {
        if (!within(ticks, 1, MOST_REST)) {
            return BAD;
        }
        history.keep(now);
        int before = now.rest;
        now.rest = ticks;
        return before;
    }

    public int addTenant(int weight) {
        if (!within(weight, 1, MOST_WEIGHT)) {
            return BAD;
        }
        if (now.tenants >= MOST_TENANTS) {
            return FULL;
        }
        history.keep(now);
        int added = now.tenants;
        now.weight[added] = weight;
        now.tenants++;
        return added;
    }

    public int setWeight(int tenant, int weight) {
        if (!now.hasTenant(tenant) || !within(weight, 1, MOST_WEIGHT)) {
            return BAD;
        }
        history.keep(now);
        int before = now.weight[tenant];
        now.weight[tenant] = weight;
        return before;
    }

    public int setLimit(int tenant, int resource, int units) {
        if (!now.hasTenant(tenant) || !isResource(resource) || !within(units, 0, MOST_LIMIT)) {
            return BAD;
        }
        int slot = slot(tenant, resource);
        if (units < now.usedBy[slot] || units < now.loan[slot]) {
            return STATE;
        }
        history.keep(now);
        int before = now.limit[slot];
        now.limit[slot] = units;
        return before;
    }

    public int demand(int tenant) {
        if (!now.hasTenant(tenant)) {
            return BAD;
        }
        if (now.isBankrupt(tenant) || text.read() != NONE || !text.hasUnits()) {
            return STATE;
        }
        if (now.demands.isFull()) {
            return FULL;
        }
        history.keep(now);
        now.demands.add(text.units, tenant);
        return now.demands.size;
    }

    public int withdraw(int tenant) {
        if (!now.hasTenant(tenant)) {
            return BAD;
        }
        int first = now.demands.firstWith(OWNER, tenant);
        if (first < 0) {
            return STATE;
        }
        history.keep(now);
        now.demands.remove(first);
        return now.demands.size;
    }

    public int grant() {
        int next = now.nextDemand();
        if (next < 0) {
            return STATE;
        }
        if (now.grants.isFull()) {
            return FULL;
        }
        history.keep(now);
        return now.serve(next);
    }

    public int grantAll() {
        if (now.nextDemand() < 0) {
            return STATE;
        }
        if (now.grants.isFull()) {
            return FULL;
        }
        history.keep(now);
        return now.serveAll(served);
    }

    public int release(int grant) {
        int row = now.grants.rowOf(grant);
        if (row < 0) {
            return BAD;
        }
        history.keep(now);
        now.endGrant(row);
        return now.grants.size;
    }

    public int exchange(int tenant, int one, int other, int n) {
        if (!now.hasTenant(tenant) || !isResource(one) || !isResource(other) || one == other
                || !within(n, 1, MOST_AT_ONCE)) {
            return BAD;
        }
        int m = converted(n, now.priceOf(one), now.priceOf(other));
        if (now.isBankrupt(tenant) || now.exchangeable(tenant, one) < n
                || m == 0 || now.fund[other] < m) {
            return STATE;
        }
        int slot = slot(tenant, other);
        if (now.limit[slot] + m > MOST_LIMIT) {
            return FULL;
        }
        history.keep(now);
        now.limit[slot(tenant, one)] -= n;
        now.limit[slot] += m;
        now.fund[other] -= m;
        now.addToFund(one, n);
        return m;
    }

    public int borrow(int tenant, int resource, int n) {
        if (!now.hasTenant(tenant) || !isResource(resource) || !within(n, 1, MOST_AT_ONCE)) {
            return BAD;
        }
        if (now.isBankrupt(tenant) || now.fund[resource] < n
                || now.loansOf(tenant) + n > LOANS_PER_WEIGHT * now.weight[tenant]) {
            return STATE;
        }
        int slot = slot(tenant, resource);
        if (now.limit[slot] + n > MOST_LIMIT) {
            return FULL;
        }
        history.keep(now);
        now.fund[resource] -= n;
        now.limit[slot] += n;
        now.loan[slot] += n;
        return now.loan[slot];
    }

    public int repay(int tenant, int resource, int n) {
        if (!now.hasTenant(tenant) || !isResource(resource) || !within(n, 1, MOST_AT_ONCE)) {
            return BAD;
        }
        int slot = slot(tenant, resource);
        if (now.loan[slot] < n || now.freePart(tenant, resource) < n) {
            return STATE;
        }
        history.keep(now);
        now.giveBack(tenant, resource, n);
        return now.loan[slot];
    }

    public int pass(int ticks) {
        if (!within(ticks, 1, MOST_AT_ONCE)) {
            return BAD;
        }
        if (now.time + ticks > LAST_TIME) {
            return FULL;
        }
        history.keep(now);
        for (int i = 0; i < ticks; i++) {
            now.tick();
        }
        return now.bankrupts;
    }

    // ---- history

    public int undo() {
        if (history.size == 0) {
            return STATE;
        }
        history.restore(now);
        return history.size;
    }

    // ---- what is told

    public int resource(int resource, int what) {
        if (!isResource(resource)) {
            return BAD;
        }
        switch (what) {
            case 0: return now.capacity[resource];
            case 1: return now.fund[resource];
            case 2: return now.used[resource];
            case 3: return now.priceOf(resource);
            case 4: return now.sumOverTenants(now.limit, resource);
            case 5: return now.sumOverTenants(now.loan, resource);
            default: return BAD;
        }
    }

    public int tenant(int tenant, int what) {
        if (!now.hasTenant(tenant)) {
            return BAD;
        }
        switch (what) {
            case 0: return now.weight[tenant];
            case 1: return now.points[tenant];
            case 2: return now.shareOf(tenant);
            case 3: return now.isBankrupt(tenant) ? 0 : 1;
            case 4: return now.grants.countOf(tenant);
            case 5: return now.demands.countOf(tenant);
            case 6: return now.isBankrupt(tenant) ? now.placeOf(tenant) : NONE;
            case 7: return now.ruinedAt[tenant];
            default: return BAD;
        }
    }

    public int account(int tenant, int resource, int what) {
        if (!now.hasTenant(tenant) || !isResource(resource)) {
            return BAD;
        }
        int slot = slot(tenant, resource);
        switch (what) {
            case 0: return now.limit[slot];
            case 1: return now.loan[slot];
            case 2: return now.usedBy[slot];
            case 3: return now.freePart(tenant, resource);
            default: return BAD;
        }
    }

    public int granted(int grant, int what) {
        if (grant < 0 || !within(what, 0, OWNER)) {
            return BAD;
        }
        return now.grants.cell(now.grants.rowOf(grant), what);
    }

    public int demanded(int i, int what) {
        if (i < 0 || !within(what, 0, OWNER)) {
            return BAD;
        }
        return now.demands.cell(i, what);
    }

    public int plan(int i) {
        if (i < -1) {
            return BAD;
        }
        int grants = makePlan();
        if (i == -1) {
            return grants;
        }
        return i < grants && i < served.length ? served[i] : NONE;
    }

    public int worth(int tenant, int resource) {
        if (!now.hasTenant(tenant) || !isResource(resource)) {
            return BAD;
        }
        int sum = 0;
        int price = now.priceOf(resource);
        for (int other = 0; other < RESOURCES; other++) {
            if (other != resource) {
                sum += converted(now.exchangeable(tenant, other), now.priceOf(other), price);
            }
        }
        return sum;
    }

    public int ruin(int tenant) {
        if (!now.hasTenant(tenant)) {
            return BAD;
        }
        foretellRuins();
        return ticksToRuin[tenant];
    }

    // ---- numbers, digest

    public int count(int what) {
        switch (what) {
            case 0: return now.time;
            case 1: return now.tenants;
            case 2: return now.grants.size;
            case 3: return now.demands.size;
            case 4: return now.bankrupts;
            case 5: return now.nextNumber;
            case 6: return now.rest;
            case 7: return now.ruins;
            case 8: return history.size;
            case 9: return text.length;
            default: return BAD;
        }
    }

    public long digest() {
        long h = 113;
        for (int what = 0; what <= 9; what++) {
            h = 31 * h + count(what);
        }
        for (int r = 0; r < RESOURCES; r++) {
            for (int what = 0; what <= 5; what++) {
                h = 31 * h + resource(r, what);
            }
        }
        foretellRuins();
        for (int t = 0; t < now.tenants && t < MOST_TENANTS; t++) {
            h = 31 * withTenant(h, t) + ticksToRuin[t];
        }
        h = withClaims(h, now.grants, true);
        h = withClaims(h, now.demands, false);
        return withText(withPlan(h));
    }

    private long withTenant(long digest, int t) {
        long h = digest;
        for (int what = 0; what <= 7; what++) {
            h = 31 * h + tenant(t, what);
        }
        for (int r = 0; r < RESOURCES; r++) {
            for (int what = 0; what <= 3; what++) {
                h = 31 * h + account(t, r, what);
            }
            h = 31 * h + worth(t, r);
        }
        return h;
    }

    private static long withClaims(long digest, Claims claims, boolean numbered) {
        long h = digest;
        for (int row = 0; row < claims.size; row++) {
            if (numbered) {
                h = 31 * h + claims.cell(row, NUMBER);
            }
            for (int column = 0; column <= OWNER; column++) {
                h = 31 * h + claims.cell(row, column);
            }
        }
        return h;
    }

    private long withPlan(long digest) {
        int grants = makePlan();
        long h = 31 * digest + grants;
        for (int i = 0; i < grants && i < served.length; i++) {
            h = 31 * h + served[i];
        }
        return h;
    }

    private long withText(long digest) {
        long h = digest;
        for (int i = 0; i < text.length && i < MOST_BYTES; i++) {
            h = 31 * h + text.bytes[i];
        }
        return h;
    }

    /** Puts the tenants that grantAll() would serve into the array served, and tells how many. */
    private int makePlan() {
        trial.copyFrom(now);
        return trial.serveAll(served);
    }

    /** One forecast tells the ruins of all tenants, since they share the same future. */
    private void foretellRuins() {
        trial.copyFrom(now);
        int unknown = 0;
        for (int t = 0; t < MOST_TENANTS; t++) {
            ticksToRuin[t] = trial.isBankrupt(t) ? 0 : NONE;
            if (ticksToRuin[t] == NONE && t < trial.tenants) {
                unknown++;
            }
        }
        for (int ticks = 1; ticks <= TICKS_FORETOLD && unknown > 0; ticks++) {
            trial.tick();
            unknown -= noteRuins(ticks);
        }
    }

    /** A tenant that fell in this tick still stands in the queue, as the rest is at least 1. */
    private int noteRuins(int ticks) {
        int noted = 0;
        for (int t = 0; t < MOST_TENANTS; t++) {
            if (ticksToRuin[t] == NONE && trial.isBankrupt(t)) {
                ticksToRuin[t] = ticks;
                noted++;
            }
        }
        return noted;
    }

    private static boolean within(int value, int least, int most) {
        return value >= least && value <= most;
    }

    private static boolean isResource(int resource) {
        return resource >= 0 && resource < RESOURCES;
    }

    /** Where the number of a tenant and a resource stands in the arrays of accounts. */
    private static int slot(int tenant, int resource) {
        return tenant * RESOURCES + resource;
    }

    private static int converted(int units, int price, int otherPrice) {
        return otherPrice < 1 ? 0 : units * price / otherPrice;
    }

    private static void copy(int[] from, int[] to) {
        System.arraycopy(from, 0, to, 0, Math.min(from.length, to.length));
    }

    /** The text, and the vector that it was read as last. */
    private static final class VectorText {
        final int[] bytes = new int[MOST_BYTES];
        final int[] units = new int[RESOURCES];
        int length;

        boolean append(int letter) {
            if (length >= MOST_BYTES) {
                return false;
            }
            bytes[length] = letter;
            length++;
            return true;
        }

        boolean hasUnits() {
            for (int r = 0; r < RESOURCES; r++) {
                if (units[r] > 0) {
                    return true;
                }
            }
            return false;
        }

        /** Reads the text into the units, which count only if no fault, that is NONE, is told. */
        int read() {
            for (int r = 0; r < RESOURCES; r++) {
                units[r] = 0;
            }
            int named = 0;
            int at = afterBlanks(0);
            // Behind all the names, whatever still stands there is a fault.
            for (int pairs = 0; pairs <= RESOURCES && at < length; pairs++) {
                int end = afterLetters(at);
                int name = nameBetween(at, end);
                if (name < 0 || (named >> name & 1) != 0) {
                    return at;
                }
                named |= 1 << name;
                at = afterBlanks(end);
                if (!isDigit(at)) {
                    return at;
                }
                // A third digit begins no name, so the next round tells it as the fault.
                end = isDigit(at + 1) ? at + 2 : at + 1;
                units[name] = numberBetween(at, end);
                at = afterBlanks(end);
            }
            return NONE;
        }

        private int byteAt(int i) {
            return i >= 0 && i < length && i < MOST_BYTES ? bytes[i] : NONE;
        }

        private boolean isDigit(int i) {
            return within(byteAt(i), '0', '9');
        }

        private int afterBlanks(int from) {
            int i = from;
            while (i < length && byteAt(i) == ' ') {
                i++;
            }
            return i;
        }

        private int afterLetters(int from) {
            int i = from;
            while (i < length && within(byteAt(i), 'a', 'z')) {
                i++;
            }
            return i;
        }

        private int numberBetween(int from, int end) {
            int number = 0;
            for (int i = from; i < end; i++) {
                number = 10 * number + byteAt(i) - '0';
            }
            return number;
        }

        /** The resource whose name the bytes are, -1 if there is none. */
        private int nameBetween(int from, int end) {
            for (int r = 0; r < RESOURCES; r++) {
                if (isBetween(nameOf(r), from, end)) {
                    return r;
                }
            }
            return -1;
        }

        private boolean isBetween(String name, int from, int end) {
            if (end - from != name.length()) {
                return false;
            }
            for (int i = 0; i < name.length(); i++) {
                if (byteAt(from + i) != name.charAt(i)) {
                    return false;
                }
            }
            return true;
        }

        private static String nameOf(int resource) {
            switch (resource) {
                case 0: return "cpu";
                case 1: return "mem";
                case 2: return "net";
                default: return "disk";
            }
        }
    }

    /** Vectors that belong to tenants, in the order in which they came: grants or demands. */
    private static final class Claims {
        private final int[] cells;
        private final int most;
        int size;

        Claims(int most) {
            this.most = Math.max(most, 0);
            cells = new int[this.most * COLUMNS];
        }

        void copyRows(Claims other) {
            copy(other.cells, cells);
            size = other.size;
        }

        boolean isFull() {
            return size >= most;
        }

        int cell(int row, int column) {
            if (!within(row, 0, size - 1) || !within(column, 0, COLUMNS - 1)) {
                return NONE;
            }
            return cells[row * COLUMNS + column];
        }

        void add(int[] units, int owner) {
            if (isFull()) {
                return;
            }
            int start = size * COLUMNS;
            for (int r = 0; r < RESOURCES && r < units.length; r++) {
                cells[start + r] = units[r];
            }
            cells[start + OWNER] = owner;
            cells[start + NUMBER] = NONE;
            size++;
        }

        void addRowOf(Claims other, int row, int number) {
            if (isFull()) {
                return;
            }
            int start = size * COLUMNS;
            for (int column = 0; column <= OWNER; column++) {
                cells[start + column] = other.cell(row, column);
            }
            cells[start + NUMBER] = number;
            size++;
        }

        void remove(int row) {
            if (!within(row, 0, size - 1)) {
                return;
            }
            size--;
            for (int i = row * COLUMNS; i < size * COLUMNS; i++) {
                cells[i] = cells[i + COLUMNS];
            }
        }

        void removeAllOf(int tenant) {
            for (int row = size - 1; row >= 0; row--) {
                if (cell(row, OWNER) == tenant) {
                    remove(row);
                }
            }
        }

        int countOf(int tenant) {
            int rows = 0;
            for (int row = 0; row < size; row++) {
                if (cell(row, OWNER) == tenant) {
                    rows++;
                }
            }
            return rows;
        }

        int rowOf(int number) {
            return number < 0 ? -1 : firstWith(NUMBER, number);
        }

        /** The first row that has the value in the column, -1 if none has. */
        int firstWith(int column, int value) {
            for (int row = 0; row < size; row++) {
                if (cell(row, column) == value) {
                    return row;
                }
            }
            return -1;
        }
    }

    /** The books of the bank: all that a state of the history holds. */
    private static final class Ledger {
        final int[] capacity = new int[RESOURCES];
        final int[] fund = new int[RESOURCES];
        final int[] used = new int[RESOURCES];
        final int[] weight = new int[MOST_TENANTS];
        final int[] points = new int[MOST_TENANTS];
        /** The time when a tenant became bankrupt the last time, NONE if it never was. */
        final int[] ruinedAt = new int[MOST_TENANTS];
        final int[] limit = new int[MOST_TENANTS * RESOURCES];
        final int[] loan = new int[MOST_TENANTS * RESOURCES];
        final int[] usedBy = new int[MOST_TENANTS * RESOURCES];
        final Claims grants = new Claims(MOST_GRANTS);
        final Claims demands = new Claims(MOST_DEMANDS);
        private final int[] queue = new int[MOST_TENANTS];
        int bankrupts;
        int tenants;
        int time;
        int rest = FIRST_REST;
        int nextNumber;
        int ruins;

        Ledger() {
            for (int t = 0; t < MOST_TENANTS; t++) {
                ruinedAt[t] = NONE;
            }
        }

        void copyFrom(Ledger other) {
            copy(other.capacity, capacity);
            copy(other.fund, fund);
            copy(other.used, used);
            copy(other.weight, weight);
            copy(other.points, points);
            copy(other.ruinedAt, ruinedAt);
            copy(other.limit, limit);
            copy(other.loan, loan);
            copy(other.usedBy, usedBy);
            grants.copyRows(other.grants);
            demands.copyRows(other.demands);
            copy(other.queue, queue);
            bankrupts = other.bankrupts;
            tenants = other.tenants;
            time = other.time;
            rest = other.rest;
            nextNumber = other.nextNumber;
            ruins = other.ruins;
        }

        boolean hasTenant(int tenant) {
            return tenant >= 0 && tenant < tenants && tenant < MOST_TENANTS;
        }

        int priceOf(int resource) {
            if (!isResource(resource) || capacity[resource] < 1) {
                return TOP_PRICE;
            }
            return 1 + 9 * used[resource] / capacity[resource];
        }

        int shareOf(int tenant) {
            if (!hasTenant(tenant)) {
                return 0;
            }
            int greatest = 0;
            for (int r = 0; r < RESOURCES; r++) {
                int whole = capacity[r] * weight[tenant];
                if (whole > 0) {
                    greatest = Math.max(greatest, 10000 * usedBy[slot(tenant, r)] / whole);
                }
            }
            return greatest;
        }

        int sumOverTenants(int[] accounts, int resource) {
            int sum = 0;
            for (int i = Math.max(resource, 0); i < accounts.length; i += RESOURCES) {
                sum += accounts[i];
            }
            return sum;
        }

        int loansOf(int tenant) {
            int sum = 0;
            for (int r = 0; r < RESOURCES && hasTenant(tenant); r++) {
                sum += loan[slot(tenant, r)];
            }
            return sum;
        }

        int freePart(int tenant, int resource) {
            if (!hasTenant(tenant) || !isResource(resource)) {
                return 0;
            }
            int slot = slot(tenant, resource);
            return limit[slot] - usedBy[slot];
        }

        int exchangeable(int tenant, int resource) {
            if (!hasTenant(tenant) || !isResource(resource)) {
                return 0;
            }
            int slot = slot(tenant, resource);
            return Math.min(limit[slot] - usedBy[slot], limit[slot] - loan[slot]);
        }

        void addToFund(int resource, int units) {
            if (isResource(resource)) {
                fund[resource] = Math.min(fund[resource] + units, MOST_VALUE);
            }
        }

        void giveBack(int tenant, int resource, int units) {
            if (hasTenant(tenant) && isResource(resource)) {
                int slot = slot(tenant, resource);
                loan[slot] -= units;
                limit[slot] -= units;
                addToFund(resource, units);
            }
        }

        /** The row of the demand that is next, -1 if none is. */
        int nextDemand() {
            int next = -1;
            int least = 0;
            for (int t = 0; t < tenants; t++) {
                int row = demands.firstWith(OWNER, t);
                if (row >= 0 && fits(row)) {
                    int share = shareOf(t);
                    if (next < 0 || share < least) {
                        next = row;
                        least = share;
                    }
                }
            }
            return next;
        }

        private boolean fits(int row) {
            int owner = demands.cell(row, OWNER);
            if (!hasTenant(owner)) {
                return false;
            }
            for (int r = 0; r < RESOURCES; r++) {
                int units = demands.cell(row, r);
                int slot = slot(owner, r);
                if (usedBy[slot] + units > limit[slot] || used[r] + units > capacity[r]) {
                    return false;
                }
            }
            return true;
        }

        /** Turns a demand into a grant and tells its tenant. */
        int serve(int row) {
            int owner = demands.cell(row, OWNER);
            grants.addRowOf(demands, row, nextNumber);
            nextNumber++;
            addUse(demands, row, 1);
            demands.remove(row);
            return owner;
        }

        /** Serves as many demands as possible, and tells how many; their tenants are put down. */
        int serveAll(int[] owners) {
            for (int n = 0; n < owners.length; n++) {
                int next = grants.isFull() ? -1 : nextDemand();
                if (next < 0) {
                    return n;
                }
                owners[n] = serve(next);
            }
            return owners.length;
        }

        void endGrant(int row) {
            addUse(grants, row, -1);
            grants.remove(row);
        }

        private void addUse(Claims claims, int row, int times) {
            int owner = claims.cell(row, OWNER);
            for (int r = 0; r < RESOURCES && hasTenant(owner); r++) {
                int units = times * claims.cell(row, r);
                usedBy[slot(owner, r)] += units;
                used[r] += units;
            }
        }

        boolean isBankrupt(int tenant) {
            return placeOf(tenant) >= 0;
        }

        private boolean isSolvent(int tenant) {
            return hasTenant(tenant) && !isBankrupt(tenant);
        }

        /** The place in the queue of bankrupts, -1 for a solvent tenant. */
        int placeOf(int tenant) {
            for (int place = 0; place < bankrupts && place < MOST_TENANTS; place++) {
                if (queue[place] == tenant) {
                    return place;
                }
            }
            return -1;
        }

        void tick() {
            time++;
            for (int t = 0; t < tenants; t++) {
                if (isSolvent(t)) {
                    points[t] += POINTS_PER_WEIGHT * weight[t] - rentOf(t);
                    points[t] -= interestOn(-points[t]);
                }
            }
            for (int t = 0; t < tenants; t++) {
                if (isSolvent(t) && -points[t] > DEBT_PER_WEIGHT * weight[t]) {
                    bankrupt(t);
                }
            }
            redeemFirst();
        }

        private int rentOf(int tenant) {
            int rent = 0;
            for (int r = 0; r < RESOURCES && hasTenant(tenant); r++) {
                rent += loan[slot(tenant, r)] * priceOf(r);
            }
            return rent;
        }

        private static int interestOn(int debt) {
            return debt > 0 ? (debt + 9) / 10 : 0;
        }

        private void bankrupt(int tenant) {
            if (!hasTenant(tenant) || bankrupts >= MOST_TENANTS) {
                return;
            }
            for (int r = 0; r < RESOURCES; r++) {
                int slot = slot(tenant, r);
                used[r] -= usedBy[slot];
                usedBy[slot] = 0;
                giveBack(tenant, r, loan[slot]);
            }
            grants.removeAllOf(tenant);
            demands.removeAllOf(tenant);
            points[tenant] = 0;
            ruinedAt[tenant] = time;
            ruins++;
            queue[bankrupts] = tenant;
            bankrupts++;
        }

        private void redeemFirst() {
            if (bankrupts < 1 || !hasTenant(queue[0]) || time - ruinedAt[queue[0]] < rest) {
                return;
            }
            bankrupts--;
            for (int place = 0; place < bankrupts && place + 1 < MOST_TENANTS; place++) {
                queue[place] = queue[place + 1];
            }
        }
    }

    /** The states before the latest changes, the oldest one first. */
    private static final class History {
        private final Ledger[] states = new Ledger[MOST_STATES];
        int size;

        History() {
            for (int i = 0; i < MOST_STATES; i++) {
                states[i] = new Ledger();
            }
        }

        void keep(Ledger now) {
            if (size >= MOST_STATES) {
                dropOldest();
            }
            states[size].copyFrom(now);
            size++;
        }

        void restore(Ledger now) {
            if (size > 0) {
                size--;
                now.copyFrom(states[size]);
            }
        }

        /** The dropped state comes behind the others, to be written over. */
        private void dropOldest() {
            Ledger oldest = states[0];
            for (int i = 1; i < MOST_STATES; i++) {
                states[i - 1] = states[i];
            }
            states[MOST_STATES - 1] = oldest;
            size = MOST_STATES - 1;
        }
    }
}
