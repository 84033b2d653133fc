import java.util.function.IntConsumer;

/** The bounds of what each call takes: the least, the greatest, the ones beside them, and what is refused. */
public final class BoundaryTest {
    private static final int FAR_BELOW = Integer.MIN_VALUE;
    private static final int FAR_ABOVE = Integer.MAX_VALUE;

    public static void main(String[] args) {
        Check c = new Check();
        everyHeight(c);
        everySkill(c);
        everyNet(c);
        everyRate(c);
        everyRetention(c);
        everyLimit(c);
        everySpan(c);
        numbersOfWalkers(c);
        firstNamedIsThrown(c);
        refusedInEveryHour(c);
        refusedCallsLeaveNoTrace(c);
        c.end();
    }

    // Promise 2: heights 1 to 30
    private static void everyHeight(Check c) {
        for (int height = 1; height <= 30; height++) {
            ShadowPool x = new ShadowPool();
            c.due("addWalker of the height " + height, x.addWalker(height, 0, 0), 0);
            c.due("shadowOf(0)", x.shadowOf(0), 6L * height);
            x.pass(1);
            c.due("wobbleOf(0) of the height " + height, x.wobbleOf(0), height / 5 + 1);
        }
        ShadowPool y = pool(3);
        argument(c, "height", y, 1, 30, height -> y.addWalker(height, 0, 0));
    }

    // Promise 2: skills 0 to 5; the rope gives 7 an hour
    private static void everySkill(Check c) {
        for (int skill = 0; skill <= 5; skill++) {
            ShadowPool x = new ShadowPool();
            c.due("addWalker of the skill " + skill, x.addWalker(30, skill, 0), 0);
            x.pass(1);
            c.due("wobbleOf(0) of the skill " + skill, x.wobbleOf(0), 7 - skill);
        }
        ShadowPool y = pool(3);
        argument(c, "skill", y, 0, 5, skill -> y.addWalker(10, skill, 0));
    }

    // Promises 2 and 4: nets 0 to 9
    private static void everyNet(Check c) {
        for (int net = 0; net <= 9; net++) {
            ShadowPool x = new ShadowPool();
            c.due("addWalker with the net " + net, x.addWalker(10, 0, net), 0);
            c.due("netOf(0)", x.netOf(0), net);
            c.due("costOf(0) with the net " + net, x.costOf(0), 60 - 2L * net);
            c.due("setNet(0, " + (9 - net) + ")", x.setNet(0, 9 - net), net);
            c.due("netOf(0)", x.netOf(0), 9 - net);
            c.due("costOf(0) with the net " + (9 - net), x.costOf(0), 42 + 2L * net);
        }
        ShadowPool y = pool(3);
        argument(c, "net", y, 0, 9, net -> y.addWalker(10, 0, net));
        ShadowPool z = pool(8);
        argument(c, "setNet of the first", z, 0, 9, net -> z.setNet(0, net));
        argument(c, "setNet of the last", z, 0, 9, net -> z.setNet(7, net));
    }

    // Promise 6: rates 0 to 9
    private static void everyRate(Check c) {
        for (int rate = 0; rate <= 9; rate++) {
            ShadowPool x = quiet(8);
            c.due("setRate(" + rate + ")", x.setRate(rate), 2);
            c.due("rate()", x.rate(), rate);
            x.pass(1);
            c.due("fund() behind the rate " + rate, x.fund(), 100 + 8L * rate);
        }
        ShadowPool y = pool(0);
        argument(c, "setRate without walkers", y, 0, 9, y::setRate);
        ShadowPool z = pool(8);
        argument(c, "setRate", z, 0, 9, z::setRate);
    }

    // Promise 7: retentions 0 to 200; the claim is 177
    private static void everyRetention(Check c) {
        ShadowPool x = new ShadowPool();
        x.addWalker(30, 0, 0);
        for (int retention = 0; retention <= 200; retention++) {
            c.due("reinsure(" + retention + ", 400)", x.reinsure(retention, 400), retention == 0 ? 0 : 400);
            c.due("retention()", x.retention(), retention);
            int reinsured = retention < 177 ? 177 - retention : 0;
            c.due("reinsuredPartOf(0) above " + retention, x.reinsuredPartOf(0), reinsured);
            c.due("poolPartOf(0) with " + retention, x.poolPartOf(0), 177 - reinsured);
        }
        ShadowPool y = pool(8);
        argument(c, "retention", y, 0, 200, retention -> y.reinsure(retention, 0));
        argument(c, "retention with the greatest limit", y, 0, 200, retention -> y.reinsure(retention, 400));
    }

    // Promise 7: limits 0 to 400; the claim of 177 is all above the retention
    private static void everyLimit(Check c) {
        for (int limit = 0; limit <= 400; limit++) {
            ShadowPool x = new ShadowPool();
            x.addWalker(30, 0, 0);
            c.due("reinsure(0, " + limit + ")", x.reinsure(0, limit), 0);
            c.due("limit()", x.limit(), limit);
            int reinsured = limit < 177 ? limit : 177;
            c.due("reinsuredPartOf(0) up to " + limit, x.reinsuredPartOf(0), reinsured);
            c.due("poolPartOf(0) with the limit " + limit, x.poolPartOf(0), 177 - reinsured);
            int premium = limit == 0 ? 0 : limit / 20 + 1;
            x.pass(1);
            c.due("fund() with the limit " + limit, x.fund(), 102 - premium);
            c.due("reinsurersLoss() with the limit " + limit, x.reinsurersLoss(), -premium);
        }
        ShadowPool y = pool(8);
        argument(c, "limit", y, 0, 400, limit -> y.reinsure(0, limit));
        argument(c, "limit with the greatest retention", y, 0, 400, limit -> y.reinsure(200, limit));
    }

    // Promises 8 and 32: 1 to 60 hours
    private static void everySpan(Check c) {
        for (int hours = 1; hours <= 60; hours++) {
            ShadowPool x = new ShadowPool();
            x.addWalker(20, 0, 0);
            int told = x.fundIn(hours);
            c.due("hour() behind fundIn(" + hours + ")", x.hour(), 0);
            // it wobbles by 5, at noon by 6: each second hour it falls
            c.due("pass(" + hours + ")", x.pass(hours), hours / 2);
            c.due("hour() behind pass(" + hours + ")", x.hour(), hours);
            c.due("fundIn(" + hours + ")", told, x.fund());
        }
        int[] counts = {0, 8};
        for (int count : counts) {
            ShadowPool x = pool(count);
            argument(c, "fundIn with " + count, x, 1, 60, x::fundIn);
            argument(c, "pass with " + count, x, 1, 60, x::pass);
        }
    }

    // "if there is no such walker", for each call that asks for one: 0 to the last, with 0 to 8 walkers
    private static void numbersOfWalkers(Check c) {
        for (int count = 0; count <= 8; count++) {
            ShadowPool x = pool(count);
            String with = " with " + count + " walkers";
            IntConsumer[] calls = {x::turnMember, w -> x.setNet(w, 0), w -> x.setNet(w, 9), x::rest, x::isMember,
                x::netOf, x::wobbleOf, x::fallsOf, x::shadowOf, x::costOf, x::ownPartOf, x::poolPartOf,
                x::reinsuredPartOf, x::hoursUntilFall};
            for (int call = 0; call < calls.length; call++) {
                c.noSuchWalker("call " + call + with, x, calls[call]);
                for (int walker = 0; walker < count; walker++) {
                    taken(c, "call " + call + " of " + walker + with, walker, calls[call]);
                }
            }
        }
    }

    // Promises 2 and 4: of several exceptions that apply, the one that is named first
    private static void firstNamedIsThrown(Check c) {
        ShadowPool full = pool(8);
        int[][] wrong = {{0, 0, 0}, {31, 5, 9}, {1, -1, 0}, {30, 6, 9}, {1, 0, -1}, {30, 5, 10}, {0, -1, -1},
            {31, 6, 10}, {FAR_BELOW, FAR_ABOVE, 0}};
        for (int[] w : wrong) {
            c.refused("addWalker to 8, and wrong", full, IllegalArgumentException.class,
                () -> full.addWalker(w[0], w[1], w[2]));
        }
        int[][] right = {{1, 0, 0}, {30, 5, 9}, {1, 5, 9}, {30, 0, 0}};
        for (int[] r : right) {
            c.refused("addWalker to 8", full, IllegalStateException.class, () -> full.addWalker(r[0], r[1], r[2]));
        }
        int[] nets = {-1, 10, FAR_BELOW, FAR_ABOVE};
        ShadowPool empty = pool(0);
        for (int net : nets) {
            c.noSuchWalker("setNet of nobody to " + net, empty, w -> empty.setNet(w, net));
            c.noSuchWalker("setNet behind the eighth to " + net, full, w -> full.setNet(w, net));
            c.refused("setNet to " + net, full, IllegalArgumentException.class, () -> full.setNet(7, net));
        }
        int[][] both = {{-1, -1}, {201, 401}, {-1, 401}, {201, -1}};
        for (int[] b : both) {
            c.refused("reinsure, both wrong", full, IllegalArgumentException.class, () -> full.reinsure(b[0], b[1]));
        }
    }

    // A refused call changes nothing, whatever the hour, the fund and the reinsurance are
    private static void refusedInEveryHour(Check c) {
        ShadowPool x = pool(8);
        for (int hour = 0; hour < 26; hour++) {
            c.due("hour()", x.hour(), hour);
            refuseAll(c, x);
            x.reinsure(hour % 3 == 0 ? 0 : 8 * hour, hour % 4 == 0 ? 0 : 16 * hour);
            refuseAll(c, x);
            x.pass(1);
        }
        c.due("the fund is less than 0", x.fund() < 0, true);
        refuseAll(c, x);
    }

    private static void refuseAll(Check c, ShadowPool x) {
        Class<IllegalArgumentException> bad = IllegalArgumentException.class;
        c.refused("addWalker, a ninth", x, IllegalStateException.class, () -> x.addWalker(30, 5, 9));
        c.refused("addWalker(31, 5, 9)", x, bad, () -> x.addWalker(31, 5, 9));
        c.refused("turnMember(8)", x, IndexOutOfBoundsException.class, () -> x.turnMember(8));
        c.refused("setNet(8, 5)", x, IndexOutOfBoundsException.class, () -> x.setNet(8, 5));
        c.refused("setNet(7, 10)", x, bad, () -> x.setNet(7, 10));
        c.refused("rest(-1)", x, IndexOutOfBoundsException.class, () -> x.rest(-1));
        c.refused("setRate(10)", x, bad, () -> x.setRate(10));
        c.refused("reinsure(201, 3)", x, bad, () -> x.reinsure(201, 3));
        c.refused("reinsure(3, 401)", x, bad, () -> x.reinsure(3, 401));
        c.refused("pass(0)", x, bad, () -> x.pass(0));
        c.refused("pass(61)", x, bad, () -> x.pass(61));
        c.refused("fundIn(0)", x, bad, () -> x.fundIn(0));
        c.refused("fundIn(61)", x, bad, () -> x.fundIn(61));
    }

    // A pool that refused calls goes on like one that was never asked them
    private static void refusedCallsLeaveNoTrace(Check c) {
        ShadowPool asked = pool(8);
        ShadowPool silent = pool(8);
        for (int i = 1; i <= 30; i++) {
            refuseAll(c, asked);
            asked.reinsure(3 * i, 13 * i);
            silent.reinsure(3 * i, 13 * i);
            c.due("pass(" + i + ")", asked.pass(i), silent.pass(i));
            c.dueText("a pool that refused, and one that was not asked", Check.state(asked), Check.state(silent));
        }
    }

    /** The least and the greatest are taken, twice each; the ones beside them and those far away are refused. */
    private static void argument(Check c, String what, ShadowPool x, int least, int greatest, IntConsumer made) {
        int[] outside = {least - 1, greatest + 1, -greatest, FAR_BELOW, FAR_ABOVE};
        int[] inside = {least, greatest};
        for (int i = 0; i < 2; i++) {
            for (int wrong : outside) {
                c.refused(what + " " + wrong, x, IllegalArgumentException.class, () -> made.accept(wrong));
            }
            for (int right : inside) {
                taken(c, what + " " + right, right, made);
            }
        }
    }

    private static void taken(Check c, String what, int argument, IntConsumer made) {
        String thrown = "nothing";
        try {
            made.accept(argument);
        } catch (RuntimeException e) {
            thrown = e.getClass().getName();
        }
        c.dueText(what + " throws", thrown, "nothing");
    }

    private static ShadowPool pool(int count) {
        ShadowPool x = new ShadowPool();
        for (int i = 0; i < count; i++) {
            x.addWalker(30 - 3 * i, i % 3, i);
        }
        return x;
    }

    // Walkers who never fall
    private static ShadowPool quiet(int count) {
        ShadowPool x = new ShadowPool();
        for (int i = 0; i < count; i++) {
            x.addWalker(1, 5, 0);
        }
        return x;
    }
}
