/** Promises 21 to 24: what falls cost, and who pays. */
public final class CostTest {
    public static void main(String[] args) {
        Check c = new Check();
        wrongNumbers(c);
        ordinary(c);
        throughTheDay(c);
        smallCosts(c);
        retentionsAndLimits(c);
        c.end();
    }

    private static void wrongNumbers(Check c) {
        ShadowPool x = new ShadowPool();
        for (int i = 0; i < 9; i++) {
            c.noSuchWalker("costOf", x, x::costOf);
            c.noSuchWalker("ownPartOf", x, x::ownPartOf);
            c.noSuchWalker("poolPartOf", x, x::poolPartOf);
            c.noSuchWalker("reinsuredPartOf", x, x::reinsuredPartOf);
            if (i < 8) {
                x.addWalker(10, 0, 0);
            }
        }
    }

    private static void ordinary(Check c) {
        ShadowPool x = new ShadowPool();
        x.addWalker(20, 2, 3);
        parts(c, "not reinsured", x, 0, 114, 3, 111, 0);
        x.reinsure(30, 50);
        parts(c, "reinsured", x, 0, 114, 3, 61, 50);
        x.turnMember(0);
        parts(c, "no member", x, 0, 114, 114, 0, 0);
        x.turnMember(0);
        parts(c, "a member again", x, 0, 114, 3, 61, 50);
        x.setNet(0, 9);
        parts(c, "with another net", x, 0, 102, 3, 49, 50);
        x.addWalker(3, 0, 0);
        parts(c, "another", x, 1, 18, 3, 15, 0);
        parts(c, "the first, beside another", x, 0, 102, 3, 49, 50);
    }

    private static void throughTheDay(Check c) {
        ShadowPool x = new ShadowPool();
        x.addWalker(16, 4, 5);
        x.reinsure(10, 30);
        int[] shadows = {96, 48, 32, 24, 19, 16, 16, 19, 24, 32, 48, 96};
        for (int hour = 0; hour < 12; hour++) {
            int cost = shadows[hour] - 10;
            int own = Math.min(cost, hour == 5 || hour == 6 ? 6 : 3);
            int claim = cost - own;
            int reinsured = claim <= 10 ? 0 : claim >= 40 ? 30 : claim - 10;
            parts(c, "in the hour " + hour, x, 0, cost, own, claim - reinsured, reinsured);
            x.rest(0);
            x.pass(1);
        }
    }

    // Costs about what a member pays: at noon a rope of the height h has a shadow of h
    private static void smallCosts(Check c) {
        ShadowPool x = new ShadowPool();
        x.addWalker(1, 5, 3);
        x.addWalker(1, 5, 2);
        x.addWalker(1, 5, 1);
        x.addWalker(1, 5, 9);
        x.reinsure(0, 400);
        parts(c, "6 - 6", x, 0, 0, 0, 0, 0);
        parts(c, "6 - 4", x, 1, 2, 2, 0, 0);
        parts(c, "6 - 2", x, 2, 4, 3, 0, 1);
        parts(c, "6 - 18, at least 0", x, 3, 0, 0, 0, 0);
        x.turnMember(3);
        parts(c, "nothing, and no member", x, 3, 0, 0, 0, 0);
        x.pass(5);
        x.addWalker(5, 5, 0);
        x.addWalker(6, 5, 0);
        x.addWalker(7, 5, 0);
        x.addWalker(20, 5, 9);
        parts(c, "5 at noon", x, 4, 5, 5, 0, 0);
        parts(c, "6 at noon", x, 5, 6, 6, 0, 0);
        parts(c, "7 at noon", x, 6, 7, 6, 0, 1);
        parts(c, "2 at noon", x, 7, 2, 2, 0, 0);
        x.pass(1);
        parts(c, "7 in the second hour of noon", x, 6, 7, 6, 0, 1);
        x.pass(1);
        parts(c, "8 behind noon", x, 6, 8, 3, 0, 5);
    }

    private static void retentionsAndLimits(Check c) {
        ShadowPool x = new ShadowPool();
        x.addWalker(30, 0, 0);
        int[] retentions = {0, 1, 30, 176, 177, 178, 200};
        int[] limits = {0, 1, 20, 147, 176, 177, 178, 400};
        for (int retention : retentions) {
            for (int limit : limits) {
                x.reinsure(retention, limit);
                int reinsured = Math.min(Math.max(177 - retention, 0), limit);
                parts(c, "with " + retention + " and " + limit, x, 0, 180, 3, 177 - reinsured, reinsured);
            }
        }
        c.due("fund(): a question pays nothing", x.fund(), 100);
        c.due("reinsurersLoss()", x.reinsurersLoss(), 0);
    }

    private static void parts(Check c, String when, ShadowPool x, int walker, int cost, int own, int pool, int reinsured) {
        c.due("costOf(" + walker + "), " + when, x.costOf(walker), cost);
        c.due("ownPartOf(" + walker + "), " + when, x.ownPartOf(walker), own);
        c.due("poolPartOf(" + walker + "), " + when, x.poolPartOf(walker), pool);
        c.due("reinsuredPartOf(" + walker + "), " + when, x.reinsuredPartOf(walker), reinsured);
    }
}
