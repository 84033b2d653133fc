import java.util.Random;

/** Long runs of calls, allowed ones and refused ones, each answer compared with the plain model's. */
public final class ModelTest {
    private static final int RUNS = 150;
    private static final int CALLS = 120;

    public static void main(String[] args) {
        Check c = new Check();
        Random r = new Random(20690);
        for (int run = 0; run < RUNS; run++) {
            oneRun(c, r, "run " + run + ", call ");
        }
        longestRun(c);
        c.end();
    }

    private static void oneRun(Check c, Random r, String where) {
        ShadowPool x = new ShadowPool();
        Model m = new Model();
        int seats = r.nextInt(9);
        for (int call = 0; call < CALLS; call++) {
            change(c, r, x, m, seats, where + call + ": ");
            compare(c, x, m, where + call + ": ");
        }
    }

    // A number that is mostly allowed, at times just outside or far away
    private static int about(Random r, int least, int most) {
        int kind = r.nextInt(12);
        if (kind == 0) {
            return r.nextBoolean() ? least - 1 : most + 1;
        }
        if (kind == 1) {
            return r.nextInt();
        }
        return kind < 5 ? (r.nextBoolean() ? least : most) : least + r.nextInt(most - least + 1);
    }

    private static boolean out(int value, int least, int most) {
        return value < least || value > most;
    }

    private static void change(Check c, Random r, ShadowPool x, Model m, int seats, String where) {
        int w = about(r, 0, Math.max(0, m.count - 1));
        switch (r.nextInt(8)) {
            case 0:
                add(c, r, x, m, seats, where);
                break;
            case 1:
                same(c, where + "turnMember", () -> x.turnMember(w) ? 1 : 0, out(w, 0, m.count - 1) ? "I" : null, () -> {
                    m.member[w] = !m.member[w];
                    return m.member[w] ? 1 : 0;
                });
                break;
            case 2:
                int net = about(r, 0, 9);
                String bad = out(w, 0, m.count - 1) ? "I" : out(net, 0, 9) ? "A" : null;
                same(c, where + "setNet", () -> x.setNet(w, net), bad, () -> {
                    int before = m.net[w];
                    m.net[w] = net;
                    return before;
                });
                break;
            case 3:
                same(c, where + "rest", () -> x.rest(w), out(w, 0, m.count - 1) ? "I" : null, () -> {
                    int before = m.wobble[w];
                    m.wobble[w] = 0;
                    return before;
                });
                break;
            case 4:
                int rate = about(r, 0, 9);
                same(c, where + "setRate", () -> x.setRate(rate), out(rate, 0, 9) ? "A" : null, () -> {
                    int before = m.rate;
                    m.rate = rate;
                    return before;
                });
                break;
            case 5:
                reinsure(c, r, x, m, where);
                break;
            default:
                int hours = r.nextInt(3) == 0 ? about(r, 1, 60) : 1 + r.nextInt(5);
                same(c, where + "pass", () -> x.pass(hours), out(hours, 1, 60) ? "A" : null, () -> m.pass(hours));
                break;
        }
    }

    private static void add(Check c, Random r, ShadowPool x, Model m, int seats, String where) {
        int height = about(r, 1, 30);
        int skill = about(r, 0, 5);
        int net = about(r, 0, 9);
        boolean bad = out(height, 1, 30) || out(skill, 0, 5) || out(net, 0, 9);
        if (bad || m.count < seats || m.count == 8) {
            String due = bad ? "A" : m.count == 8 ? "S" : null;
            same(c, where + "addWalker", () -> x.addWalker(height, skill, net), due, () -> m.add(height, skill, net));
        }
    }

    private static void reinsure(Check c, Random r, ShadowPool x, Model m, String where) {
        int retention = about(r, 0, r.nextBoolean() ? 200 : 40);
        int limit = about(r, 0, r.nextBoolean() ? 400 : 100);
        String bad = out(retention, 0, 200) || out(limit, 0, 400) ? "A" : null;
        same(c, where + "reinsure", () -> x.reinsure(retention, limit), bad, () -> {
            int before = m.limit;
            m.retention = retention;
            m.limit = limit;
            return before;
        });
    }

    private static void same(Check c, String call, java.util.function.LongSupplier asked, String bad,
            java.util.function.LongSupplier due) {
        String thrown = null;
        long got = 0;
        try {
            got = asked.getAsLong();
        } catch (RuntimeException e) {
            thrown = kind(e);
        }
        c.dueText(call + " throws", String.valueOf(thrown), String.valueOf(bad));
        if (bad == null && thrown == null) {
            c.due(call, got, due.getAsLong());
        }
    }

    private static String kind(RuntimeException e) {
        Class<?> k = e.getClass();
        return k == IndexOutOfBoundsException.class ? "I" : k == IllegalArgumentException.class ? "A"
            : k == IllegalStateException.class ? "S" : k.getName();
    }

    private static void compare(Check c, ShadowPool x, Model m, String where) {
        c.due(where + "hour()", x.hour(), m.hour);
        c.due(where + "sun()", x.sun(), m.sun());
        c.due(where + "isNoon()", x.isNoon(), m.noon());
        c.due(where + "hoursUntilNoon()", x.hoursUntilNoon(), m.untilNoon());
        c.due(where + "walkers()", x.walkers(), m.count);
        c.due(where + "members()", x.members(), m.members());
        c.due(where + "longestShadow()", x.longestShadow(), m.longest());
        c.dueDouble(where + "meanShadow()", x.meanShadow(), m.mean());
        c.due(where + "fund()", x.fund(), m.fund);
        c.due(where + "rate()", x.rate(), m.rate);
        c.due(where + "retention()", x.retention(), m.retention);
        c.due(where + "limit()", x.limit(), m.limit);
        c.due(where + "reinsurersLoss()", x.reinsurersLoss(), m.loss);
        for (int w = 0; w < m.count; w++) {
            compareWalker(c, x, m, w, where);
        }
        c.due(where + "nextToFall()", x.nextToFall(), m.nextToFall());
        int hours = 1 + m.hour % 60;
        c.due(where + "fundIn(" + hours + ")", x.fundIn(hours), m.fundIn(hours));
        c.due(where + "hoursUntilRuin()", x.hoursUntilRuin(), m.untilRuin());
        c.due(where + "bestLimit()", x.bestLimit(), m.bestLimit());
        c.due(where + "fairRate()", x.fairRate(), m.fairRate());
        c.due(where + "digest()", x.digest(), m.digest());
    }

    private static void compareWalker(Check c, ShadowPool x, Model m, int w, String where) {
        c.due(where + "isMember(" + w + ")", x.isMember(w), m.member[w]);
        c.due(where + "netOf(" + w + ")", x.netOf(w), m.net[w]);
        c.due(where + "wobbleOf(" + w + ")", x.wobbleOf(w), m.wobble[w]);
        c.due(where + "fallsOf(" + w + ")", x.fallsOf(w), m.falls[w]);
        c.due(where + "shadowOf(" + w + ")", x.shadowOf(w), m.shadow(w));
        c.due(where + "costOf(" + w + ")", x.costOf(w), m.cost(w));
        c.due(where + "ownPartOf(" + w + ")", x.ownPartOf(w), m.own(w));
        c.due(where + "poolPartOf(" + w + ")", x.poolPartOf(w), m.pool(w));
        c.due(where + "reinsuredPartOf(" + w + ")", x.reinsuredPartOf(w), m.reinsured(w));
        c.due(where + "hoursUntilFall(" + w + ")", x.hoursUntilFall(w), m.untilFall(w));
    }

    // 512 calls, the dearest walkers, and the most hours: no number may leave an int
    private static void longestRun(Check c) {
        ShadowPool x = new ShadowPool();
        Model m = new Model();
        for (int w = 0; w < 8; w++) {
            c.due("addWalker", x.addWalker(30, 0, 0), m.add(30, 0, 0));
        }
        for (int call = 8; call < 504; call++) {
            c.due("pass(60)", x.pass(60), m.pass(60));
        }
        compare(c, x, m, "behind 504 calls: ");
    }
}
