import java.util.ArrayDeque;
import java.util.ArrayList;
import java.util.Arrays;
import java.util.Deque;
import java.util.HashSet;
import java.util.List;
import java.util.Set;
import java.util.regex.Matcher;
import java.util.regex.Pattern;

/**
 * The document once more, in the plainest form and with the Java library: nothing is kept that can
 * be counted anew, and each state is a deep copy. RandomRunsTest compares it with LimitBank.
 */
final class PlainBank {
    static final int BAD = -1000000, STATE = -1000001, FULL = -1000002, NONE = -1000003;
    private static final List<String> NAMES = Arrays.asList("cpu", "mem", "net", "disk");

    private static final class Tenant {
        int weight;
        int points;
        int fellAt = NONE;
        boolean solvent = true;
        int[] limits = new int[4];
        int[] loans = new int[4];

        Tenant copy() {
            Tenant copy = new Tenant();
            copy.weight = weight;
            copy.points = points;
            copy.fellAt = fellAt;
            copy.solvent = solvent;
            copy.limits = limits.clone();
            copy.loans = loans.clone();
            return copy;
        }
    }

    /** Never changed after it was made, so copies of states share it. */
    private static final class Claim {
        final int tenant;
        final int number;
        final int[] units;

        Claim(int tenant, int number, int[] units) {
            this.tenant = tenant;
            this.number = number;
            this.units = units;
        }
    }

    private static final class World {
        int[] capacities = new int[4];
        int[] funds = new int[4];
        List<Tenant> tenants = new ArrayList<>();
        List<Claim> grants = new ArrayList<>();
        List<Claim> demands = new ArrayList<>();
        List<Integer> queue = new ArrayList<>();
        int time;
        int rest = 3;
        int number;
        int falls;

        World copy() {
            World copy = new World();
            copy.capacities = capacities.clone();
            copy.funds = funds.clone();
            for (Tenant each : tenants) {
                copy.tenants.add(each.copy());
            }
            copy.grants.addAll(grants);
            copy.demands.addAll(demands);
            copy.queue.addAll(queue);
            copy.time = time;
            copy.rest = rest;
            copy.number = number;
            copy.falls = falls;
            return copy;
        }

        int use(int tenant, int resource) {
            return grants.stream().filter(g -> g.tenant == tenant)
                    .mapToInt(g -> g.units[resource]).sum();
        }

        int use(int resource) {
            return grants.stream().mapToInt(g -> g.units[resource]).sum();
        }

        int price(int resource) {
            return capacities[resource] == 0 ? 10
                    : 1 + 9 * use(resource) / capacities[resource];
        }

        int share(int tenant) {
            int share = 0;
            for (int r = 0; r < 4; r++) {
                if (capacities[r] > 0) {
                    share = Math.max(share, 10000 * use(tenant, r)
                            / (capacities[r] * tenants.get(tenant).weight));
                }
            }
            return share;
        }

        int free(int tenant, int resource) {
            return tenants.get(tenant).limits[resource] - use(tenant, resource);
        }

        boolean fits(Claim demand) {
            for (int r = 0; r < 4; r++) {
                if (use(demand.tenant, r) + demand.units[r]
                        > tenants.get(demand.tenant).limits[r]
                        || use(r) + demand.units[r] > capacities[r]) {
                    return false;
                }
            }
            return true;
        }

        Claim next() {
            Set<Integer> seen = new HashSet<>();
            Claim next = null;
            for (Claim each : demands) {
                if (seen.add(each.tenant) && fits(each) && (next == null
                        || share(each.tenant) * 10 + each.tenant
                        < share(next.tenant) * 10 + next.tenant)) {
                    next = each;
                }
            }
            return next;
        }

        int grantNext() {
            Claim next = next();
            demands.remove(next);
            grants.add(new Claim(next.tenant, number++, next.units));
            return next.tenant;
        }

        List<Integer> grantAll() {
            List<Integer> served = new ArrayList<>();
            while (next() != null && grants.size() < 40) {
                served.add(grantNext());
            }
            return served;
        }

        void toFund(int resource, int units) {
            funds[resource] = Math.min(999, funds[resource] + units);
        }

        void tick() {
            int[] prices = new int[4];
            for (int r = 0; r < 4; r++) {
                prices[r] = price(r);
            }
            time++;
            for (Tenant each : tenants) {
                if (each.solvent) {
                    each.points += 5 * each.weight;
                    for (int r = 0; r < 4; r++) {
                        each.points -= each.loans[r] * prices[r];
                    }
                }
            }
            for (Tenant each : tenants) {
                if (each.solvent && each.points < 0) {
                    each.points -= (int) Math.ceil(-each.points / 10.0);
                }
            }
            for (int t = 0; t < tenants.size(); t++) {
                Tenant each = tenants.get(t);
                if (each.solvent && each.points < -50 * each.weight) {
                    fall(t);
                }
            }
            if (!queue.isEmpty() && time - tenants.get(queue.get(0)).fellAt >= rest) {
                tenants.get(queue.remove(0)).solvent = true;
            }
        }

        void fall(int t) {
            Tenant each = tenants.get(t);
            grants.removeIf(g -> g.tenant == t);
            demands.removeIf(d -> d.tenant == t);
            for (int r = 0; r < 4; r++) {
                toFund(r, each.loans[r]);
                each.limits[r] -= each.loans[r];
                each.loans[r] = 0;
            }
            each.points = 0;
            each.solvent = false;
            each.fellAt = time;
            queue.add(t);
            falls++;
        }
    }

    private World world = new World();
    private final Deque<World> history = new ArrayDeque<>();
    private String text = "";

    private static boolean out(int value, int least, int most) {
        return value < least || value > most;
    }

    private boolean noTenant(int tenant) {
        return tenant < 0 || tenant >= world.tenants.size();
    }

    private void change() {
        history.addLast(world.copy());
        if (history.size() > 8) {
            history.removeFirst();
        }
    }

    int type(int letter) {
        if (out(letter, 0, 127)) {
            return BAD;
        }
        if (text.length() == 60) {
            return FULL;
        }
        text += (char) letter;
        return text.length();
    }

    int clearText() {
        int before = text.length();
        text = "";
        return before;
    }

    private static final Pattern LETTERS = Pattern.compile("[a-z]*");
    private static final Pattern BLANKS = Pattern.compile(" *");

    private int end(Pattern pattern, int from) {
        Matcher matcher = pattern.matcher(text).region(from, text.length());
        return matcher.lookingAt() ? matcher.end() : from;
    }

    /** The units of the vector; or, where there is a fault, an array of its index alone. */
    private int[] read() {
        int[] units = {-1, -1, -1, -1};
        int i = end(BLANKS, 0);
        while (i < text.length()) {
            int end = end(LETTERS, i);
            int name = NAMES.indexOf(text.substring(i, end));
            if (name < 0 || units[name] >= 0) {
                return new int[] {i};
            }
            i = end(BLANKS, end);
            int digits = 0;
            units[name] = 0;
            while (i < text.length() && text.charAt(i) >= '0' && text.charAt(i) <= '9') {
                digits++;
                if (digits == 3) {
                    return new int[] {i};
                }
                units[name] = units[name] * 10 + Character.digit(text.charAt(i), 10);
                i++;
            }
            if (digits == 0) {
                return new int[] {i};
            }
            i = end(BLANKS, i);
        }
        return Arrays.stream(units).map(u -> Math.max(u, 0)).toArray();
    }

    int fault() {
        int[] read = read();
        return read.length == 1 ? read[0] : NONE;
    }

    int setResource(int resource, boolean fund, int value) {
        if (out(resource, 0, 3) || out(value, 0, 999)) {
            return BAD;
        }
        if (!fund && value < world.use(resource)) {
            return STATE;
        }
        change();
        int[] values = fund ? world.funds : world.capacities;
        int before = values[resource];
        values[resource] = value;
        return before;
    }

    int setRest(int ticks) {
        if (out(ticks, 1, 99)) {
            return BAD;
        }
        change();
        int before = world.rest;
        world.rest = ticks;
        return before;
    }

    int addTenant(int weight) {
        if (out(weight, 1, 9)) {
            return BAD;
        }
        if (world.tenants.size() == 6) {
            return FULL;
        }
        change();
        Tenant tenant = new Tenant();
        tenant.weight = weight;
        world.tenants.add(tenant);
        return world.tenants.size() - 1;
    }

    int setWeight(int tenant, int weight) {
        if (noTenant(tenant) || out(weight, 1, 9)) {
            return BAD;
        }
        change();
        int before = world.tenants.get(tenant).weight;
        world.tenants.get(tenant).weight = weight;
        return before;
    }

    int setLimit(int tenant, int resource, int units) {
        if (noTenant(tenant) || out(resource, 0, 3) || out(units, 0, 9999)) {
            return BAD;
        }
        if (units < world.use(tenant, resource)
                || units < world.tenants.get(tenant).loans[resource]) {
            return STATE;
        }
        change();
        int before = world.tenants.get(tenant).limits[resource];
        world.tenants.get(tenant).limits[resource] = units;
        return before;
    }

    int demand(int tenant) {
        if (noTenant(tenant)) {
            return BAD;
        }
        int[] read = read();
        if (!world.tenants.get(tenant).solvent || read.length == 1
                || Arrays.stream(read).sum() == 0) {
            return STATE;
        }
        if (world.demands.size() == 24) {
            return FULL;
        }
        change();
        world.demands.add(new Claim(tenant, 0, read));
        return world.demands.size();
    }

    int withdraw(int tenant) {
        if (noTenant(tenant)) {
            return BAD;
        }
        for (int i = 0; i < world.demands.size(); i++) {
            if (world.demands.get(i).tenant == tenant) {
                change();
                world.demands.remove(i);
                return world.demands.size();
            }
        }
        return STATE;
    }

    int grant() {
        if (world.next() == null) {
            return STATE;
        }
        if (world.grants.size() == 40) {
            return FULL;
        }
        change();
        return world.grantNext();
    }

    int grantAll() {
        if (world.next() == null) {
            return STATE;
        }
        if (world.grants.size() == 40) {
            return FULL;
        }
        change();
        return world.grantAll().size();
    }

    private Claim grantNumbered(int number) {
        for (Claim each : world.grants) {
            if (each.number == number) {
                return each;
            }
        }
        return null;
    }

    int release(int grant) {
        Claim found = grantNumbered(grant);
        if (found == null) {
            return BAD;
        }
        change();
        world.grants.remove(found);
        return world.grants.size();
    }

    int exchange(int tenant, int one, int other, int n) {
        if (noTenant(tenant) || out(one, 0, 3) || out(other, 0, 3) || one == other
                || out(n, 1, 999)) {
            return BAD;
        }
        Tenant who = world.tenants.get(tenant);
        int m = n * world.price(one) / world.price(other);
        if (!who.solvent || world.free(tenant, one) < n || who.limits[one] - who.loans[one] < n
                || m == 0 || world.funds[other] < m) {
            return STATE;
        }
        if (who.limits[other] + m > 9999) {
            return FULL;
        }
        change();
        who = world.tenants.get(tenant);
        who.limits[one] -= n;
        world.toFund(one, n);
        world.funds[other] -= m;
        who.limits[other] += m;
        return m;
    }

    int borrow(int tenant, int resource, int n) {
        if (noTenant(tenant) || out(resource, 0, 3) || out(n, 1, 999)) {
            return BAD;
        }
        Tenant who = world.tenants.get(tenant);
        if (!who.solvent || world.funds[resource] < n
                || Arrays.stream(who.loans).sum() + n > 10 * who.weight) {
            return STATE;
        }
        if (who.limits[resource] + n > 9999) {
            return FULL;
        }
        change();
        world.funds[resource] -= n;
        who.limits[resource] += n;
        who.loans[resource] += n;
        return who.loans[resource];
    }

    int repay(int tenant, int resource, int n) {
        if (noTenant(tenant) || out(resource, 0, 3) || out(n, 1, 999)) {
            return BAD;
        }
        Tenant who = world.tenants.get(tenant);
        if (who.loans[resource] < n || world.free(tenant, resource) < n) {
            return STATE;
        }
        change();
        who.limits[resource] -= n;
        who.loans[resource] -= n;
        world.toFund(resource, n);
        return who.loans[resource];
    }

    int pass(int ticks) {
        if (out(ticks, 1, 999)) {
            return BAD;
        }
        if (world.time + ticks > 9999) {
            return FULL;
        }
        change();
        for (int i = 0; i < ticks; i++) {
            world.tick();
        }
        return world.queue.size();
    }

    int undo() {
        if (history.isEmpty()) {
            return STATE;
        }
        world = history.removeLast();
        return history.size();
    }

    int resource(int r, int what) {
        if (out(r, 0, 3) || out(what, 0, 5)) {
            return BAD;
        }
        int[] told = {world.capacities[r], world.funds[r], world.use(r), world.price(r),
            world.tenants.stream().mapToInt(t -> t.limits[r]).sum(),
            world.tenants.stream().mapToInt(t -> t.loans[r]).sum()};
        return told[what];
    }

    int tenant(int t, int what) {
        if (noTenant(t) || out(what, 0, 7)) {
            return BAD;
        }
        Tenant who = world.tenants.get(t);
        int[] told = {who.weight, who.points, world.share(t), who.solvent ? 1 : 0,
            (int) world.grants.stream().filter(g -> g.tenant == t).count(),
            (int) world.demands.stream().filter(d -> d.tenant == t).count(),
            who.solvent ? NONE : world.queue.indexOf(t), who.fellAt};
        return told[what];
    }

    int account(int t, int r, int what) {
        if (noTenant(t) || out(r, 0, 3) || out(what, 0, 3)) {
            return BAD;
        }
        Tenant who = world.tenants.get(t);
        int[] told = {who.limits[r], who.loans[r], world.use(t, r), world.free(t, r)};
        return told[what];
    }

    private static int part(Claim claim, int what) {
        return claim == null ? NONE : what == 4 ? claim.tenant : claim.units[what];
    }

    int granted(int grant, int what) {
        return grant < 0 || out(what, 0, 4) ? BAD : part(grantNumbered(grant), what);
    }

    int demanded(int i, int what) {
        if (i < 0 || out(what, 0, 4)) {
            return BAD;
        }
        return part(i < world.demands.size() ? world.demands.get(i) : null, what);
    }

    int plan(int i) {
        if (i < -1) {
            return BAD;
        }
        List<Integer> served = world.copy().grantAll();
        return i == -1 ? served.size() : i < served.size() ? served.get(i) : NONE;
    }

    int worth(int tenant, int resource) {
        if (noTenant(tenant) || out(resource, 0, 3)) {
            return BAD;
        }
        Tenant who = world.tenants.get(tenant);
        int sum = 0;
        for (int r = 0; r < 4; r++) {
            if (r != resource) {
                int f = Math.min(world.free(tenant, r), who.limits[r] - who.loans[r]);
                sum += f * world.price(r) / world.price(resource);
            }
        }
        return sum;
    }

    int ruin(int tenant) {
        if (noTenant(tenant)) {
            return BAD;
        }
        World future = world.copy();
        for (int ticks = 0; ticks <= 200; ticks++) {
            if (!future.tenants.get(tenant).solvent) {
                return ticks;
            }
            future.tick();
        }
        return NONE;
    }

    int count(int what) {
        if (out(what, 0, 9)) {
            return BAD;
        }
        int[] told = {world.time, world.tenants.size(), world.grants.size(),
            world.demands.size(), world.queue.size(), world.number, world.rest, world.falls,
            history.size(), text.length()};
        return told[what];
    }

    long digest() {
        List<Long> numbers = new ArrayList<>();
        for (int what = 0; what <= 9; what++) {
            numbers.add((long) count(what));
        }
        for (int r = 0; r < 4; r++) {
            for (int what = 0; what <= 5; what++) {
                numbers.add((long) resource(r, what));
            }
        }
        for (int t = 0; t < world.tenants.size(); t++) {
            for (int what = 0; what <= 7; what++) {
                numbers.add((long) tenant(t, what));
            }
            for (int r = 0; r < 4; r++) {
                for (int what = 0; what <= 3; what++) {
                    numbers.add((long) account(t, r, what));
                }
                numbers.add((long) worth(t, r));
            }
            numbers.add((long) ruin(t));
        }
        for (Claim each : world.grants) {
            numbers.add((long) each.number);
            for (int what = 0; what <= 4; what++) {
                numbers.add((long) part(each, what));
            }
        }
        for (Claim each : world.demands) {
            for (int what = 0; what <= 4; what++) {
                numbers.add((long) part(each, what));
            }
        }
        List<Integer> served = world.copy().grantAll();
        numbers.add((long) served.size());
        served.forEach(t -> numbers.add((long) t));
        text.chars().forEach(letter -> numbers.add((long) letter));
        return numbers.stream().reduce(113L, (h, v) -> 31 * h + v);
    }
}
