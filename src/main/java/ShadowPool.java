/**
 * An insurance pool for tightrope walkers and their shadows.
 *
 * <p>The object keeps two books: one tells how things stand, the other is only
 * for questions about what would be. Such a question copies the first book
 * into the second and lets the hours go by there, so that nothing is changed.
 */
public final class ShadowPool {
    private static final int DAY = 12;
    private static final int FIRST_HOUR_OF_NOON = 5;
    private static final int LAST_HOUR_OF_NOON = 6;

    private static final int MOST_WALKERS = 8;
    private static final int LEAST_HEIGHT = 1;
    private static final int MOST_HEIGHT = 30;
    private static final int MOST_SKILL = 5;
    private static final int MOST_NET = 9;
    private static final int FALLING_WOBBLE = 10;

    private static final int FIRST_FUND = 100;
    private static final int FIRST_RATE = 2;
    private static final int FIRST_RETENTION = 30;
    private static final int MOST_RATE = 9;
    private static final int MOST_RETENTION = 200;
    private static final int MOST_LIMIT = 400;

    private static final int MOST_HOURS = 60;
    private static final int FORESIGHT = 100;
    private static final int PLANNED_HOURS = 48;
    private static final int LIMIT_STEP = 20;
    private static final int MOST_PLANNED_LIMIT = 100;

    private static final long FIRST_DIGEST = 2069L;
    private static final long DIGEST_FACTOR = 31L;

    private final Book now;
    private final Book trial;

    // ---- a new object

    public ShadowPool() {
        now = new Book();
        trial = new Book();
    }

    // ---- walkers

    public int addWalker(int height, int skill, int net) throws IllegalArgumentException, IllegalStateException {
        if (!within(height, LEAST_HEIGHT, MOST_HEIGHT)) {
            throw new IllegalArgumentException("height is not 1 to 30");
        }
        if (!within(skill, 0, MOST_SKILL)) {
            throw new IllegalArgumentException("skill is not 0 to 5");
        }
        if (!within(net, 0, MOST_NET)) {
            throw new IllegalArgumentException("net is not 0 to 9");
        }
        int number = now.enter(height, skill, net);
        if (number < 0) {
            throw new IllegalStateException("there are 8 walkers");
        }
        return number;
    }

    public boolean turnMember(int walker) throws IndexOutOfBoundsException {
        Walker one = now.find(walker);
        if (one == null) {
            throw new IndexOutOfBoundsException("no such walker");
        }
        one.member = !one.member;
        return one.member;
    }

    public int setNet(int walker, int net) throws IndexOutOfBoundsException, IllegalArgumentException {
        Walker one = now.find(walker);
        if (one == null) {
            throw new IndexOutOfBoundsException("no such walker");
        }
        if (!within(net, 0, MOST_NET)) {
            throw new IllegalArgumentException("net is not 0 to 9");
        }
        int before = one.net;
        one.net = net;
        return before;
    }

    public int rest(int walker) throws IndexOutOfBoundsException {
        Walker one = now.find(walker);
        if (one == null) {
            throw new IndexOutOfBoundsException("no such walker");
        }
        int before = one.wobble;
        one.wobble = 0;
        return before;
    }

    // ---- the pool

    public int setRate(int rate) throws IllegalArgumentException {
        if (!within(rate, 0, MOST_RATE)) {
            throw new IllegalArgumentException("rate is not 0 to 9");
        }
        int before = now.rate;
        now.rate = rate;
        return before;
    }

    public int reinsure(int retention, int limit) throws IllegalArgumentException {
        if (!within(retention, 0, MOST_RETENTION)) {
            throw new IllegalArgumentException("retention is not 0 to 200");
        }
        if (!within(limit, 0, MOST_LIMIT)) {
            throw new IllegalArgumentException("limit is not 0 to 400");
        }
        int before = now.limit;
        now.retention = retention;
        now.limit = limit;
        return before;
    }

    public int pass(int hours) throws IllegalArgumentException {
        if (!within(hours, 1, MOST_HOURS)) {
            throw new IllegalArgumentException("hours is not 1 to 60");
        }
        return now.letGoBy(hours);
    }

    // ---- the sun

    public int hour() {
        return now.hour;
    }

    public int sun() {
        return sunAt(hourOfDay(now.hour));
    }

    public boolean isNoon() {
        return noonAt(hourOfDay(now.hour));
    }

    public int hoursUntilNoon() {
        int ofDay = hourOfDay(now.hour);
        return noonAt(ofDay) ? 0 : Math.floorMod(FIRST_HOUR_OF_NOON - ofDay, DAY);
    }

    // ---- what walkers are

    public int walkers() {
        return now.count;
    }

    public int members() {
        return now.countMembers();
    }

    public boolean isMember(int walker) throws IndexOutOfBoundsException {
        Walker one = now.find(walker);
        if (one == null) {
            throw new IndexOutOfBoundsException("no such walker");
        }
        return one.member;
    }

    public int netOf(int walker) throws IndexOutOfBoundsException {
        Walker one = now.find(walker);
        if (one == null) {
            throw new IndexOutOfBoundsException("no such walker");
        }
        return one.net;
    }

    public int wobbleOf(int walker) throws IndexOutOfBoundsException {
        Walker one = now.find(walker);
        if (one == null) {
            throw new IndexOutOfBoundsException("no such walker");
        }
        return one.wobble;
    }

    public int fallsOf(int walker) throws IndexOutOfBoundsException {
        Walker one = now.find(walker);
        if (one == null) {
            throw new IndexOutOfBoundsException("no such walker");
        }
        return one.falls;
    }

    public int shadowOf(int walker) throws IndexOutOfBoundsException {
        Walker one = now.find(walker);
        if (one == null) {
            throw new IndexOutOfBoundsException("no such walker");
        }
        return one.shadowUnder(sun());
    }

    public int longestShadow() {
        int longest = -1;
        int length = -1;
        for (int i = 0; i < now.count; i++) {
            Walker one = now.find(i);
            int its = one == null ? -1 : one.shadowUnder(sun());
            if (its > length) {
                longest = i;
                length = its;
            }
        }
        return longest;
    }

    // ---- what falls cost

    public int costOf(int walker) throws IndexOutOfBoundsException {
        Walker one = now.find(walker);
        if (one == null) {
            throw new IndexOutOfBoundsException("no such walker");
        }
        return one.costUnder(sun());
    }

    public int ownPartOf(int walker) throws IndexOutOfBoundsException {
        Walker one = now.find(walker);
        if (one == null) {
            throw new IndexOutOfBoundsException("no such walker");
        }
        return one.ownPart(one.costUnder(sun()), isNoon());
    }

    public int poolPartOf(int walker) throws IndexOutOfBoundsException {
        Walker one = now.find(walker);
        if (one == null) {
            throw new IndexOutOfBoundsException("no such walker");
        }
        int claim = claimNow(one);
        return claim - now.reinsuredPart(claim);
    }

    public int reinsuredPartOf(int walker) throws IndexOutOfBoundsException {
        Walker one = now.find(walker);
        if (one == null) {
            throw new IndexOutOfBoundsException("no such walker");
        }
        return now.reinsuredPart(claimNow(one));
    }

    // ---- how the pool stands

    public int fund() {
        return now.fund;
    }

    public int rate() {
        return now.rate;
    }

    public int retention() {
        return now.retention;
    }

    public int limit() {
        return now.limit;
    }

    public int reinsurersLoss() {
        return now.reinsurersLoss;
    }

    // ---- what would be

    public int hoursUntilFall(int walker) throws IndexOutOfBoundsException {
        Walker one = now.find(walker);
        if (one == null) {
            throw new IndexOutOfBoundsException("no such walker");
        }
        return one.fallsBehind(now.hour);
    }

    public int nextToFall() {
        int next = -1;
        int soonest = FORESIGHT + 1;
        for (int i = 0; i < now.count; i++) {
            Walker one = now.find(i);
            int hours = one == null ? -1 : one.fallsBehind(now.hour);
            if (hours > 0 && hours < soonest) {
                next = i;
                soonest = hours;
            }
        }
        return next;
    }

    public int fundIn(int hours) throws IllegalArgumentException {
        if (!within(hours, 1, MOST_HOURS)) {
            throw new IllegalArgumentException("hours is not 1 to 60");
        }
        return fundBehind(hours, now.rate, now.limit);
    }

    public int hoursUntilRuin() {
        trial.copyFrom(now);
        for (int hours = 0; hours < FORESIGHT; hours++) {
            if (trial.fund < 0) {
                return hours;
            }
            trial.letGoBy(1);
        }
        return trial.fund < 0 ? FORESIGHT : -1;
    }

    public int bestLimit() {
        int best = 0;
        int greatest = fundBehind(PLANNED_HOURS, now.rate, 0);
        for (int tried = LIMIT_STEP; tried <= MOST_PLANNED_LIMIT; tried += LIMIT_STEP) {
            int reached = fundBehind(PLANNED_HOURS, now.rate, tried);
            if (reached > greatest) {
                best = tried;
                greatest = reached;
            }
        }
        return best;
    }

    public int fairRate() {
        for (int tried = 0; tried <= MOST_RATE; tried++) {
            if (fundBehind(PLANNED_HOURS, tried, now.limit) >= now.fund) {
                return tried;
            }
        }
        return -1;
    }

    public double meanShadow() {
        int together = 0;
        for (int i = 0; i < now.count; i++) {
            Walker one = now.find(i);
            together += one == null ? 0 : one.shadowUnder(sun());
        }
        return now.count == 0 ? 0.0 : (double) together / (double) now.count;
    }

    public long digest() {
        long d = FIRST_DIGEST;
        d = chain(d, hour());
        d = chain(d, sun());
        d = chain(d, walkers());
        d = chain(d, members());
        d = chain(d, fund());
        d = chain(d, rate());
        d = chain(d, retention());
        d = chain(d, limit());
        d = chain(d, reinsurersLoss());
        d = chain(d, nextToFall());
        d = chain(d, bestLimit());
        d = chain(d, fairRate());
        for (int i = 0; i < now.count; i++) {
            Walker one = now.find(i);
            d = one == null ? d : chainWalker(d, one);
        }
        return d;
    }

    // ---- parts of the answers

    private long chainWalker(long before, Walker one) {
        long d = chain(before, one.member ? 1 : 0);
        d = chain(d, one.net);
        d = chain(d, one.wobble);
        d = chain(d, one.falls);
        d = chain(d, one.shadowUnder(sun()));
        d = chain(d, one.costUnder(sun()));
        int claim = claimNow(one);
        int reinsured = now.reinsuredPart(claim);
        d = chain(d, claim - reinsured);
        return chain(d, reinsured);
    }

    private static long chain(long d, int x) {
        return d * DIGEST_FACTOR + x;
    }

    private int claimNow(Walker one) {
        int cost = one.costUnder(sun());
        return cost - one.ownPart(cost, isNoon());
    }

    private int fundBehind(int hours, int rate, int limit) {
        trial.copyFrom(now);
        trial.rate = rate;
        trial.limit = limit;
        trial.letGoBy(hours);
        return trial.fund;
    }

    private static boolean within(int value, int least, int most) {
        return value >= least && value <= most;
    }

    // ---- the sun of an hour

    // floorMod, not %: it stays 0 to 11 even if the hour wraps around far behind the 512th call
    private static int hourOfDay(int hour) {
        return Math.floorMod(hour, DAY);
    }

    private static int sunAt(int ofDay) {
        return ofDay <= FIRST_HOUR_OF_NOON ? ofDay + 1 : DAY - ofDay;
    }

    private static boolean noonAt(int ofDay) {
        return ofDay >= FIRST_HOUR_OF_NOON && ofDay <= LAST_HOUR_OF_NOON;
    }

    /** One who walks: what is known of the rope, the net and the wobble. */
    private static final class Walker {
        private static final int SHADOW_FACTOR = 6;
        private static final int NET_FACTOR = 2;
        private static final int HEIGHT_PER_WOBBLE = 5;
        private static final int WOBBLE_AT_NOON = 2;
        private static final int WOBBLE_OTHERWISE = 1;
        private static final int OWN_PART_AT_NOON = 6;
        private static final int OWN_PART_OTHERWISE = 3;

        private int height;
        private int skill;
        private int net;
        private int wobble;
        private int falls;
        private boolean member;

        private Walker() {
        }

        private void begin(int ropeHeight, int ropeSkill, int firstNet) {
            height = ropeHeight;
            skill = ropeSkill;
            net = firstNet;
            wobble = 0;
            falls = 0;
            member = true;
        }

        private void copyWalker(Walker other) {
            height = other.height;
            skill = other.skill;
            net = other.net;
            wobble = other.wobble;
            falls = other.falls;
            member = other.member;
        }

        private int shadowUnder(int sun) {
            return sun < 1 ? 0 : SHADOW_FACTOR * height / sun;
        }

        private int costUnder(int sun) {
            return Math.max(0, shadowUnder(sun) - NET_FACTOR * net);
        }

        // all for one who is no member, so that the claim of that one is 0
        private int ownPart(int cost, boolean noon) {
            if (!member) {
                return cost;
            }
            return Math.min(cost, noon ? OWN_PART_AT_NOON : OWN_PART_OTHERWISE);
        }

        private int wobbleBehind(int before, boolean noon) {
            int more = height / HEIGHT_PER_WOBBLE + (noon ? WOBBLE_AT_NOON : WOBBLE_OTHERWISE);
            return Math.max(0, before + more - skill);
        }

        /** In how many hours from this one on the walker falls, or -1. */
        private int fallsBehind(int hour) {
            int reached = wobble;
            for (int hours = 1; hours <= FORESIGHT; hours++) {
                reached = wobbleBehind(reached, noonAt(hourOfDay(hour + hours - 1)));
                if (reached >= FALLING_WOBBLE) {
                    return hours;
                }
            }
            return -1;
        }

        private void fall() {
            falls++;
            net = Math.max(0, net - 1);
            wobble = 0;
        }
    }

    /** The hour, the walkers and the money. */
    private static final class Book {
        private static final int PREMIUM_SHARE = 20;

        private int hour;
        private int fund;
        private int rate;
        private int retention;
        private int limit;
        private int reinsurersLoss;
        private int count;
        private final Walker[] row;

        private Book() {
            hour = 0;
            fund = FIRST_FUND;
            rate = FIRST_RATE;
            retention = FIRST_RETENTION;
            limit = 0;
            reinsurersLoss = 0;
            count = 0;
            row = new Walker[MOST_WALKERS];
            for (int i = 0; i < MOST_WALKERS; i++) {
                row[i] = new Walker();
            }
        }

        /** The walker of this number, or null if there is none. */
        private Walker find(int number) {
            return number >= 0 && number < count && number < row.length ? row[number] : null;
        }

        /** The number of the new walker, or -1 if there is no place left. */
        private int enter(int height, int skill, int net) {
            int number = count;
            if (number < 0 || number >= row.length || row[number] == null) {
                return -1;
            }
            row[number].begin(height, skill, net);
            count++;
            return number;
        }

        private void copyFrom(Book other) {
            hour = other.hour;
            fund = other.fund;
            rate = other.rate;
            retention = other.retention;
            limit = other.limit;
            reinsurersLoss = other.reinsurersLoss;
            count = other.count;
            for (int i = 0; i < count; i++) {
                Walker mine = find(i);
                Walker theirs = other.find(i);
                if (mine != null && theirs != null) {
                    mine.copyWalker(theirs);
                }
            }
        }

        private int countMembers() {
            int found = 0;
            for (int i = 0; i < count; i++) {
                Walker one = find(i);
                found += one != null && one.member ? 1 : 0;
            }
            return found;
        }

        private int reinsuredPart(int claim) {
            return Math.min(Math.max(0, claim - retention), limit);
        }

        /** Lets the hours go by and counts the falls in them. */
        private int letGoBy(int hours) {
            int falls = 0;
            for (int i = 0; i < hours; i++) {
                falls += letOneHourGoBy();
            }
            return falls;
        }

        private int letOneHourGoBy() {
            int ofDay = hourOfDay(hour);
            if (ofDay == 0) {
                payDues();
            }
            int falls = 0;
            for (int i = 0; i < count; i++) {
                Walker one = find(i);
                falls += one != null && walk(one, sunAt(ofDay), noonAt(ofDay)) ? 1 : 0;
            }
            hour++;
            return falls;
        }

        private void payDues() {
            fund += rate * countMembers();
            if (limit != 0) {
                int premium = limit / PREMIUM_SHARE + 1;
                fund -= premium;
                reinsurersLoss -= premium;
            }
        }

        /** Whether the walker falls in this hour. */
        private boolean walk(Walker one, int sun, boolean noon) {
            one.wobble = one.wobbleBehind(one.wobble, noon);
            if (one.wobble < FALLING_WOBBLE) {
                return false;
            }
            // paid before the net is 1 less: the cost counts the net that caught this fall
            int cost = one.costUnder(sun);
            int claim = cost - one.ownPart(cost, noon);
            int reinsured = reinsuredPart(claim);
            fund -= claim - reinsured;
            reinsurersLoss += reinsured;
            one.fall();
            return true;
        }
    }
}
