/** Promises 2 to 5 and 13 to 20: walkers, and what they are. */
public final class WalkersTest {
    public static void main(String[] args) {
        Check c = new Check();
        addWalker(c);
        addWalkerRefused(c);
        turnMember(c);
        setNet(c);
        rest(c);
        counts(c);
        whatWalkersAre(c);
        shadows(c);
        longestShadow(c);
        c.end();
    }

    // Promise 2
    private static void addWalker(Check c) {
        ShadowPool x = new ShadowPool();
        int[] heights = {1, 30, 10, 7, 22, 1, 30, 15};
        int[] skills = {0, 5, 1, 2, 3, 5, 0, 4};
        int[] nets = {0, 9, 5, 1, 2, 9, 0, 8};
        for (int i = 0; i < 8; i++) {
            c.due("addWalker " + i, x.addWalker(heights[i], skills[i], nets[i]), i);
            c.due("walkers()", x.walkers(), i + 1);
            c.due("shadowOf", x.shadowOf(i), 6L * heights[i]);
            c.due("netOf", x.netOf(i), nets[i]);
            c.due("wobbleOf", x.wobbleOf(i), 0);
            c.due("fallsOf", x.fallsOf(i), 0);
            c.due("isMember", x.isMember(i), true);
        }
        x.pass(1);
        int[] wobbles = {1, 2, 2, 0, 2, 0, 7, 0};
        for (int i = 0; i < 8; i++) {
            c.due("wobbleOf " + i + " behind an hour", x.wobbleOf(i), wobbles[i]);
        }
        ShadowPool late = new ShadowPool();
        late.addWalker(10, 0, 0);
        late.pass(5);
        c.due("addWalker at noon", late.addWalker(10, 1, 4), 1);
        c.due("wobbleOf(1)", late.wobbleOf(1), 0);
        late.pass(1);
        c.due("wobbleOf(1) behind an hour of noon", late.wobbleOf(1), 3);
    }

    private static void addWalkerRefused(Check c) {
        ShadowPool x = new ShadowPool();
        for (int i = 0; i < 9; i++) {
            badNumbers(c, x);
            if (i < 8) {
                c.due("addWalker behind refused ones", x.addWalker(12, 2, 3), i);
            }
        }
        c.refused("a ninth", x, IllegalStateException.class, () -> x.addWalker(12, 2, 3));
        c.refused("a ninth again", x, IllegalStateException.class, () -> x.addWalker(1, 0, 0));
    }

    private static void badNumbers(Check c, ShadowPool x) {
        int[] heights = {0, 31, -1, Integer.MIN_VALUE, Integer.MAX_VALUE};
        int[] skills = {-1, 6, Integer.MIN_VALUE, Integer.MAX_VALUE};
        int[] nets = {-1, 10, Integer.MIN_VALUE, Integer.MAX_VALUE};
        for (int height : heights) {
            c.refused("height " + height, x, IllegalArgumentException.class, () -> x.addWalker(height, 2, 3));
        }
        for (int skill : skills) {
            c.refused("skill " + skill, x, IllegalArgumentException.class, () -> x.addWalker(12, skill, 3));
        }
        for (int net : nets) {
            c.refused("net " + net, x, IllegalArgumentException.class, () -> x.addWalker(12, 2, net));
        }
    }

    // Promise 3
    private static void turnMember(Check c) {
        ShadowPool x = new ShadowPool();
        c.noSuchWalker("turnMember without walkers", x, x::turnMember);
        x.addWalker(12, 2, 3);
        x.addWalker(13, 1, 0);
        c.due("turnMember(1)", x.turnMember(1), false);
        c.due("isMember(1)", x.isMember(1), false);
        c.due("isMember(0)", x.isMember(0), true);
        c.due("members()", x.members(), 1);
        c.due("turnMember(0)", x.turnMember(0), false);
        c.due("members()", x.members(), 0);
        c.due("turnMember(1)", x.turnMember(1), true);
        c.due("isMember(1)", x.isMember(1), true);
        c.due("members()", x.members(), 1);
        c.noSuchWalker("turnMember", x, x::turnMember);
    }

    // Promise 4
    private static void setNet(Check c) {
        ShadowPool x = new ShadowPool();
        c.noSuchWalker("setNet without walkers", x, w -> x.setNet(w, 1));
        x.addWalker(12, 2, 3);
        x.addWalker(13, 1, 7);
        c.due("setNet(0, 9)", x.setNet(0, 9), 3);
        c.due("netOf(0)", x.netOf(0), 9);
        c.due("setNet(0, 0)", x.setNet(0, 0), 9);
        c.due("netOf(0)", x.netOf(0), 0);
        c.due("netOf(1)", x.netOf(1), 7);
        c.due("setNet(1, 7)", x.setNet(1, 7), 7);
        int[] nets = {-1, 10, Integer.MIN_VALUE, Integer.MAX_VALUE};
        for (int net : nets) {
            c.refused("setNet(1, " + net + ")", x, IllegalArgumentException.class, () -> x.setNet(1, net));
            c.noSuchWalker("setNet to " + net, x, w -> x.setNet(w, net));
        }
        c.noSuchWalker("setNet", x, w -> x.setNet(w, 5));
    }

    // Promise 5
    private static void rest(Check c) {
        ShadowPool x = new ShadowPool();
        c.noSuchWalker("rest without walkers", x, x::rest);
        x.addWalker(10, 0, 0);
        x.addWalker(5, 0, 0);
        x.pass(3);
        c.due("rest(0)", x.rest(0), 9);
        c.due("wobbleOf(0)", x.wobbleOf(0), 0);
        c.due("wobbleOf(1)", x.wobbleOf(1), 6);
        c.due("rest(0) again", x.rest(0), 0);
        c.due("fallsOf(0)", x.fallsOf(0), 0);
        c.due("pass(1)", x.pass(1), 0);
        c.due("wobbleOf(0)", x.wobbleOf(0), 3);
        c.noSuchWalker("rest", x, x::rest);
    }

    // Promises 13 and 14
    private static void counts(Check c) {
        ShadowPool x = new ShadowPool();
        for (int i = 0; i < 8; i++) {
            c.due("walkers()", x.walkers(), i);
            c.due("members()", x.members(), i);
            x.addWalker(i + 1, 0, 0);
        }
        for (int i = 7; i >= 0; i--) {
            x.turnMember(i);
            c.due("walkers()", x.walkers(), 8);
            c.due("members()", x.members(), i);
        }
    }

    // Promises 15 to 18
    private static void whatWalkersAre(Check c) {
        ShadowPool x = new ShadowPool();
        c.noSuchWalker("isMember without walkers", x, x::isMember);
        x.addWalker(20, 0, 2);
        x.addWalker(1, 5, 4);
        x.turnMember(1);
        x.pass(2);
        c.due("isMember(0)", x.isMember(0), true);
        c.due("isMember(1)", x.isMember(1), false);
        c.due("fallsOf(0)", x.fallsOf(0), 1);
        c.due("fallsOf(1)", x.fallsOf(1), 0);
        c.due("netOf(0)", x.netOf(0), 1);
        c.due("netOf(1)", x.netOf(1), 4);
        c.due("wobbleOf(0)", x.wobbleOf(0), 0);
        x.pass(1);
        c.due("wobbleOf(0)", x.wobbleOf(0), 5);
        c.due("wobbleOf(1)", x.wobbleOf(1), 0);
        x.pass(3);
        c.due("fallsOf(0)", x.fallsOf(0), 3);
        c.due("netOf(0), at least 0", x.netOf(0), 0);
        c.noSuchWalker("isMember", x, x::isMember);
        c.noSuchWalker("netOf", x, x::netOf);
        c.noSuchWalker("wobbleOf", x, x::wobbleOf);
        c.noSuchWalker("fallsOf", x, x::fallsOf);
    }

    // Promise 19
    private static void shadows(Check c) {
        ShadowPool x = new ShadowPool();
        c.noSuchWalker("shadowOf without walkers", x, x::shadowOf);
        x.addWalker(1, 5, 0);
        x.addWalker(7, 5, 0);
        x.addWalker(30, 0, 9);
        int[] ofOne = {6, 3, 2, 1, 1, 1, 1, 1, 1, 2, 3, 6};
        int[] ofSeven = {42, 21, 14, 10, 8, 7, 7, 8, 10, 14, 21, 42};
        int[] ofThirty = {180, 90, 60, 45, 36, 30, 30, 36, 45, 60, 90, 180};
        for (int hour = 0; hour < 24; hour++) {
            c.due("shadowOf(0) in the hour " + hour, x.shadowOf(0), ofOne[hour % 12]);
            c.due("shadowOf(1) in the hour " + hour, x.shadowOf(1), ofSeven[hour % 12]);
            c.due("shadowOf(2) in the hour " + hour, x.shadowOf(2), ofThirty[hour % 12]);
            x.pass(1);
        }
        c.noSuchWalker("shadowOf", x, x::shadowOf);
    }

    // Promise 20
    private static void longestShadow(Check c) {
        ShadowPool x = new ShadowPool();
        c.due("longestShadow() without walkers", x.longestShadow(), -1);
        x.addWalker(5, 5, 0);
        c.due("longestShadow()", x.longestShadow(), 0);
        x.addWalker(5, 5, 0);
        c.due("longestShadow() of two as long", x.longestShadow(), 0);
        x.addWalker(9, 5, 9);
        x.addWalker(8, 5, 0);
        x.addWalker(9, 5, 0);
        for (int hour = 0; hour < 12; hour++) {
            c.due("longestShadow() in the hour " + hour, x.longestShadow(), 2);
            x.pass(1);
        }
        x.turnMember(2);
        c.due("longestShadow() of one who is no member", x.longestShadow(), 2);
        x.addWalker(30, 5, 0);
        c.due("longestShadow() of the last one", x.longestShadow(), 5);
    }
}
