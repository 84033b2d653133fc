/** Promises 1 and 9 to 12: a new object, the hour and the sun. */
public final class SunTest {
    private static final int[] SUN = {1, 2, 3, 4, 5, 6, 6, 5, 4, 3, 2, 1};
    private static final int[] UNTIL_NOON = {5, 4, 3, 2, 1, 0, 0, 10, 9, 8, 7, 6};

    public static void main(String[] args) {
        Check c = new Check();
        newObject(c);
        threeDays(c);
        lateHours(c);
        c.end();
    }

    // Promise 1
    private static void newObject(Check c) {
        ShadowPool x = new ShadowPool();
        c.due("hour()", x.hour(), 0);
        c.due("walkers()", x.walkers(), 0);
        c.due("members()", x.members(), 0);
        c.due("fund()", x.fund(), 100);
        c.due("rate()", x.rate(), 2);
        c.due("retention()", x.retention(), 30);
        c.due("limit()", x.limit(), 0);
        c.due("reinsurersLoss()", x.reinsurersLoss(), 0);
        c.due("longestShadow()", x.longestShadow(), -1);
        c.due("nextToFall()", x.nextToFall(), -1);
        c.due("hoursUntilRuin()", x.hoursUntilRuin(), -1);
        c.dueDouble("meanShadow()", x.meanShadow(), 0.0);
        String fresh = Check.state(x);
        ShadowPool other = new ShadowPool();
        other.addWalker(10, 0, 0);
        other.setRate(9);
        other.reinsure(0, 400);
        other.pass(60);
        c.dueText("a pool beside another", Check.state(x), fresh);
        c.dueText("a pool made behind another", Check.state(new ShadowPool()), fresh);
    }

    // Promises 9 to 12
    private static void threeDays(Check c) {
        ShadowPool x = new ShadowPool();
        for (int hour = 0; hour < 36; hour++) {
            String at = " in the hour " + hour;
            c.due("hour()" + at, x.hour(), hour);
            c.due("sun()" + at, x.sun(), SUN[hour % 12]);
            c.due("isNoon()" + at, x.isNoon(), hour % 12 == 5 || hour % 12 == 6);
            c.due("hoursUntilNoon()" + at, x.hoursUntilNoon(), UNTIL_NOON[hour % 12]);
            x.pass(1);
        }
    }

    // The last hours that 512 calls can reach
    private static void lateHours(Check c) {
        ShadowPool x = new ShadowPool();
        for (int i = 0; i < 500; i++) {
            x.pass(60);
        }
        c.due("hour()", x.hour(), 30000);
        c.due("sun()", x.sun(), 1);
        x.pass(7);
        c.due("hour()", x.hour(), 30007);
        c.due("sun()", x.sun(), 5);
        c.due("isNoon()", x.isNoon(), false);
        c.due("hoursUntilNoon()", x.hoursUntilNoon(), 10);
    }
}
