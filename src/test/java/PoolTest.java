/** Promises 6 to 8 and 25 to 29: the pool, what an hour does, and how the pool stands. */
public final class PoolTest {
    public static void main(String[] args) {
        Check c = new Check();
        setRate(c);
        reinsure(c);
        passRefused(c);
        dues(c);
        wobbles(c);
        aDayOfFalls(c);
        netsWear(c);
        reinsuredFalls(c);
        noMember(c);
        severalFalls(c);
        c.end();
    }

    // Promises 6 and 26
    private static void setRate(Check c) {
        ShadowPool x = new ShadowPool();
        c.due("setRate(9)", x.setRate(9), 2);
        c.due("rate()", x.rate(), 9);
        c.due("setRate(0)", x.setRate(0), 9);
        c.due("rate()", x.rate(), 0);
        c.due("setRate(4)", x.setRate(4), 0);
        int[] rates = {-1, 10, Integer.MIN_VALUE, Integer.MAX_VALUE};
        for (int rate : rates) {
            c.refused("setRate(" + rate + ")", x, IllegalArgumentException.class, () -> x.setRate(rate));
        }
        c.due("rate()", x.rate(), 4);
    }

    // Promises 7, 27 and 28
    private static void reinsure(Check c) {
        ShadowPool x = new ShadowPool();
        c.due("reinsure(200, 400)", x.reinsure(200, 400), 0);
        c.due("retention()", x.retention(), 200);
        c.due("limit()", x.limit(), 400);
        c.due("reinsure(0, 0)", x.reinsure(0, 0), 400);
        c.due("retention()", x.retention(), 0);
        c.due("limit()", x.limit(), 0);
        c.due("reinsure(50, 70)", x.reinsure(50, 70), 0);
        c.due("reinsure(51, 71)", x.reinsure(51, 71), 70);
        int[] retentions = {-1, 201, Integer.MIN_VALUE, Integer.MAX_VALUE};
        int[] limits = {-1, 401, Integer.MIN_VALUE, Integer.MAX_VALUE};
        for (int retention : retentions) {
            c.refused("retention " + retention, x, IllegalArgumentException.class, () -> x.reinsure(retention, 10));
        }
        for (int limit : limits) {
            c.refused("limit " + limit, x, IllegalArgumentException.class, () -> x.reinsure(10, limit));
        }
        c.due("fund(): nothing is paid at once", x.fund(), 100);
        c.due("reinsurersLoss()", x.reinsurersLoss(), 0);
    }

    // Promise 8
    private static void passRefused(Check c) {
        ShadowPool x = new ShadowPool();
        x.addWalker(20, 0, 3);
        x.pass(1);
        int[] spans = {0, 61, -1, Integer.MIN_VALUE, Integer.MAX_VALUE};
        for (int hours : spans) {
            c.refused("pass(" + hours + ")", x, IllegalArgumentException.class, () -> x.pass(hours));
        }
        x.pass(60);
        c.due("hour() behind pass(60)", x.hour(), 61);
        x.pass(1);
        c.due("hour() behind pass(1)", x.hour(), 62);
    }

    // Promises 8, 25 and 29: what is paid in the hour of the day 0, and in no other
    private static void dues(Check c) {
        ShadowPool x = new ShadowPool();
        for (int i = 0; i < 3; i++) {
            x.addWalker(1, 5, 0);
        }
        x.turnMember(1);
        x.setRate(3);
        c.due("pass(1)", x.pass(1), 0);
        c.due("fund(), two pay 3", x.fund(), 106);
        c.due("pass(11)", x.pass(11), 0);
        c.due("fund(), nothing in other hours", x.fund(), 106);
        c.due("reinsurersLoss(), not reinsured", x.reinsurersLoss(), 0);
        premium(c, x, 1, 1);
        premium(c, x, 19, 1);
        premium(c, x, 20, 2);
        premium(c, x, 60, 4);
        premium(c, x, 400, 21);
        x.reinsure(0, 0);
        int before = x.fund();
        int loss = x.reinsurersLoss();
        x.pass(13);
        c.due("fund(), two days, not reinsured", x.fund(), before + 12L);
        c.due("reinsurersLoss(), no longer reinsured", x.reinsurersLoss(), loss);
        ShadowPool empty = new ShadowPool();
        empty.reinsure(0, 400);
        empty.pass(60);
        c.due("fund(), less than 0 without walkers", empty.fund(), -5);
        c.due("reinsurersLoss()", empty.reinsurersLoss(), -105);
    }

    private static void premium(Check c, ShadowPool x, int limit, int due) {
        int before = x.fund();
        int loss = x.reinsurersLoss();
        x.reinsure(0, limit);
        x.pass(12);
        c.due("fund() with the limit " + limit, x.fund(), before + 6L - due);
        c.due("reinsurersLoss() with the limit " + limit, x.reinsurersLoss(), (long) loss - due);
    }

    private static void wobbles(Check c) {
        ShadowPool x = new ShadowPool();
        x.addWalker(10, 2, 0);
        x.addWalker(9, 1, 0);
        x.addWalker(4, 0, 0);
        x.addWalker(14, 4, 0);
        // a gain of 1, 1, 1 and -1 an hour, at noon one more
        int[] ofFirst = {1, 2, 3, 4, 5, 7, 9, 0, 1};
        int[] ofThird = {1, 2, 3, 4, 5, 7, 9, 0, 1};
        for (int hour = 0; hour < 9; hour++) {
            c.due("pass(1) in the hour " + hour, x.pass(1), hour == 7 ? 3 : 0);
            c.due("wobbleOf(0) behind the hour " + hour, x.wobbleOf(0), ofFirst[hour]);
            c.due("wobbleOf(1) behind the hour " + hour, x.wobbleOf(1), ofFirst[hour]);
            c.due("wobbleOf(2) behind the hour " + hour, x.wobbleOf(2), ofThird[hour]);
            c.due("wobbleOf(3) behind the hour " + hour, x.wobbleOf(3), 0);
        }
        ShadowPool steep = new ShadowPool();
        steep.addWalker(30, 5, 0);
        steep.addWalker(10, 0, 0);
        steep.pass(3);
        c.due("wobbleOf(0)", steep.wobbleOf(0), 6);
        c.due("wobbleOf(1), 9 is no fall", steep.wobbleOf(1), 9);
        c.due("pass(1)", steep.pass(1), 1);
        c.due("pass(1), 10 is a fall", steep.pass(1), 1);
        c.due("fallsOf(0)", steep.fallsOf(0), 1);
        c.due("fallsOf(1)", steep.fallsOf(1), 1);
    }

    // A walker who falls in the hours 1, 3, 5 (noon), 7, 9 and 11; a claim is 6 * 20 / sun - 3, at noon - 6
    private static void aDayOfFalls(Check c) {
        ShadowPool x = new ShadowPool();
        x.addWalker(20, 0, 0);
        int[] funds = {102, 45, 45, 18, 18, 4, 4, -17, -17, -54, -54, -171, -169};
        int[] wobbles = {5, 0, 5, 0, 5, 0, 6, 0, 5, 0, 5, 0, 5};
        for (int hour = 0; hour < 13; hour++) {
            boolean falls = hour % 2 == 1;
            c.due("pass(1) in the hour " + hour, x.pass(1), falls ? 1 : 0);
            c.due("fund() behind the hour " + hour, x.fund(), funds[hour]);
            c.due("wobbleOf(0) behind the hour " + hour, x.wobbleOf(0), wobbles[hour]);
            c.due("fallsOf(0) behind the hour " + hour, x.fallsOf(0), (hour + 1) / 2);
        }
        ShadowPool once = new ShadowPool();
        once.addWalker(20, 0, 0);
        c.due("pass(13)", once.pass(13), 6);
        c.dueText("thirteen hours at once", Check.state(once), Check.state(x));
    }

    // The cost counts the net as it was at the fall: 60 - 6, 30 - 4, then 20 - 2
    private static void netsWear(Check c) {
        ShadowPool x = new ShadowPool();
        x.addWalker(20, 0, 3);
        x.pass(2);
        c.due("fund()", x.fund(), 102 - 51);
        c.due("netOf(0)", x.netOf(0), 2);
        x.pass(2);
        c.due("fund()", x.fund(), 51 - 23);
        c.due("netOf(0)", x.netOf(0), 1);
        x.pass(2);
        c.due("fund()", x.fund(), 28 - 12);
        c.due("netOf(0)", x.netOf(0), 0);
        x.pass(2);
        c.due("fund()", x.fund(), 16 - 21);
        c.due("netOf(0)", x.netOf(0), 0);
    }

    // Promise 29: claims of 57 in the hour 1, and 27 in the hour 3
    private static void reinsuredFalls(Check c) {
        reinsuredCase(c, 30, 20, 102 - 2 - 37, -2 + 20, 102 - 2 - 64, -2 + 20);
        reinsuredCase(c, 30, 400, 102 - 21 - 30, -21 + 27, 102 - 21 - 57, -21 + 27);
        reinsuredCase(c, 0, 400, 102 - 21, -21 + 57, 102 - 21, -21 + 84);
        reinsuredCase(c, 0, 40, 102 - 3 - 17, -3 + 40, 102 - 3 - 17, -3 + 67);
        reinsuredCase(c, 57, 40, 102 - 3 - 57, -3, 102 - 3 - 84, -3);
        reinsuredCase(c, 56, 40, 102 - 3 - 56, -3 + 1, 102 - 3 - 83, -3 + 1);
        reinsuredCase(c, 200, 400, 102 - 21 - 57, -21, 102 - 21 - 84, -21);
        reinsuredCase(c, 0, 0, 102 - 57, 0, 102 - 84, 0);
    }

    private static void reinsuredCase(Check c, int retention, int limit, int fund2, int loss2, int fund4, int loss4) {
        String with = " with " + retention + " and " + limit;
        ShadowPool x = new ShadowPool();
        x.addWalker(20, 0, 0);
        x.reinsure(retention, limit);
        c.due("pass(2)" + with, x.pass(2), 1);
        c.due("fund() behind 2" + with, x.fund(), fund2);
        c.due("reinsurersLoss() behind 2" + with, x.reinsurersLoss(), loss2);
        c.due("pass(2)" + with, x.pass(2), 1);
        c.due("fund() behind 4" + with, x.fund(), fund4);
        c.due("reinsurersLoss() behind 4" + with, x.reinsurersLoss(), loss4);
    }

    private static void noMember(Check c) {
        ShadowPool x = new ShadowPool();
        x.addWalker(20, 0, 2);
        x.turnMember(0);
        x.reinsure(0, 400);
        c.due("pass(12)", x.pass(12), 6);
        c.due("fund(), but for the premium", x.fund(), 79);
        c.due("reinsurersLoss()", x.reinsurersLoss(), -21);
        c.due("fallsOf(0)", x.fallsOf(0), 6);
        c.due("netOf(0)", x.netOf(0), 0);
        c.due("wobbleOf(0)", x.wobbleOf(0), 0);
    }

    // Promise 8: the falls of all walkers are counted
    private static void severalFalls(Check c) {
        ShadowPool x = new ShadowPool();
        for (int i = 0; i < 8; i++) {
            x.addWalker(30, 0, 0);
        }
        c.due("pass(1)", x.pass(1), 0);
        c.due("pass(1)", x.pass(1), 8);
        c.due("fund()", x.fund(), 116 - 8 * 87);
        c.due("pass(2)", x.pass(2), 8);
        c.due("pass(60)", x.pass(60), 240);
        c.due("fallsOf(7)", x.fallsOf(7), 32);
    }
}
