/** Promises 30 to 36: what would be, if nothing else is done; and that to ask changes nothing. */
public final class ForesightTest {
    public static void main(String[] args) {
        Check c = new Check();
        hoursUntilFall(c);
        latestFalls(c);
        nextToFall(c);
        fundIn(c);
        hoursUntilRuin(c);
        bestLimit(c);
        fairRate(c);
        meanShadow(c);
        questionsChangeNothing(c);
        c.end();
    }

    // Promise 30
    private static void hoursUntilFall(Check c) {
        ShadowPool x = new ShadowPool();
        c.noSuchWalker("hoursUntilFall without walkers", x, x::hoursUntilFall);
        x.addWalker(30, 0, 0);
        x.addWalker(1, 5, 0);
        x.addWalker(20, 0, 0);
        x.addWalker(10, 0, 0);
        x.addWalker(10, 1, 0);
        c.due("hoursUntilFall(0), by 7", x.hoursUntilFall(0), 2);
        c.due("hoursUntilFall(1), never", x.hoursUntilFall(1), -1);
        c.due("hoursUntilFall(2), 10 in the second", x.hoursUntilFall(2), 2);
        c.due("hoursUntilFall(3), by 3", x.hoursUntilFall(3), 4);
        c.due("hoursUntilFall(4), by 2", x.hoursUntilFall(4), 5);
        x.turnMember(4);
        x.setNet(4, 9);
        c.due("hoursUntilFall(4), no member", x.hoursUntilFall(4), 5);
        x.pass(1);
        c.due("hoursUntilFall(0), in the next hour", x.hoursUntilFall(0), 1);
        c.due("hoursUntilFall(4)", x.hoursUntilFall(4), 4);
        x.rest(4);
        c.due("hoursUntilFall(4), rested: 2, 4, 6, 8, then 3 more at noon", x.hoursUntilFall(4), 5);
        x.pass(1);
        c.due("hoursUntilFall(0), just fallen", x.hoursUntilFall(0), 2);
        c.noSuchWalker("hoursUntilFall", x, x::hoursUntilFall);
    }

    // By noon's wobble alone: 1 in each hour of noon, and none in the others
    private static void latestFalls(Check c) {
        ShadowPool x = new ShadowPool();
        x.addWalker(10, 3, 0);
        c.due("hoursUntilFall(0): 5 noons of 2", x.hoursUntilFall(0), 55);
        x.pass(7);
        c.due("wobbleOf(0)", x.wobbleOf(0), 2);
        x.rest(0);
        c.due("hoursUntilFall(0), the latest that can be", x.hoursUntilFall(0), 60);
        c.due("nextToFall()", x.nextToFall(), 0);
        c.due("pass(59)", x.pass(59), 0);
        c.due("hoursUntilFall(0)", x.hoursUntilFall(0), 1);
        c.due("pass(1)", x.pass(1), 1);
        ShadowPool never = new ShadowPool();
        never.addWalker(10, 4, 0);
        c.due("hoursUntilFall(0), one more skill", never.hoursUntilFall(0), -1);
        c.due("nextToFall()", never.nextToFall(), -1);
    }

    // Promise 31
    private static void nextToFall(Check c) {
        ShadowPool x = new ShadowPool();
        c.due("nextToFall() without walkers", x.nextToFall(), -1);
        x.addWalker(1, 5, 0);
        c.due("nextToFall() of one who never falls", x.nextToFall(), -1);
        x.addWalker(10, 1, 0);
        c.due("nextToFall()", x.nextToFall(), 1);
        x.addWalker(10, 1, 9);
        c.due("nextToFall() of two at once", x.nextToFall(), 1);
        x.addWalker(30, 0, 0);
        x.turnMember(3);
        c.due("nextToFall(), who is no member", x.nextToFall(), 3);
        x.addWalker(20, 0, 0);
        c.due("nextToFall() of two in the same hour", x.nextToFall(), 3);
        x.pass(1);
        x.rest(3);
        c.due("nextToFall(), the other rested", x.nextToFall(), 4);
        x.pass(1);
        c.due("nextToFall(), 7 before 5", x.nextToFall(), 3);
        x.rest(1);
        x.rest(2);
        x.rest(3);
        c.due("nextToFall()", x.nextToFall(), 3);
    }

    // Promise 32
    private static void fundIn(Check c) {
        ShadowPool x = new ShadowPool();
        int[] spans = {0, 61, -1, Integer.MIN_VALUE, Integer.MAX_VALUE};
        for (int hours : spans) {
            c.refused("fundIn(" + hours + ")", x, IllegalArgumentException.class, () -> x.fundIn(hours));
        }
        c.due("fundIn(60) without walkers", x.fundIn(60), 100);
        x.addWalker(20, 0, 0);
        for (int hours : spans) {
            c.refused("fundIn(" + hours + ")", x, IllegalArgumentException.class, () -> x.fundIn(hours));
        }
        int[] funds = {102, 45, 45, 18, 18, 4, 4, -17, -17, -54, -54, -171, -169};
        for (int hours = 1; hours <= 13; hours++) {
            c.due("fundIn(" + hours + ")", x.fundIn(hours), funds[hours - 1]);
        }
        c.due("fundIn(1) asked again", x.fundIn(1), 102);
        for (int hours = 1; hours <= 60; hours++) {
            ShadowPool asked = busy();
            int told = asked.fundIn(hours);
            asked.pass(hours);
            c.due("fundIn(" + hours + ") of a busy pool", told, asked.fund());
        }
    }

    // Promise 33
    private static void hoursUntilRuin(Check c) {
        ShadowPool x = new ShadowPool();
        c.due("hoursUntilRuin() without walkers", x.hoursUntilRuin(), -1);
        x.addWalker(20, 0, 0);
        c.due("hoursUntilRuin()", x.hoursUntilRuin(), 8);
        x.pass(7);
        c.due("fund()", x.fund(), 4);
        c.due("hoursUntilRuin(), in the next hour", x.hoursUntilRuin(), 1);
        x.pass(1);
        c.due("fund()", x.fund(), -17);
        c.due("hoursUntilRuin(), now", x.hoursUntilRuin(), 0);
        premiums(c, 0, 380, 61); // 20 a day: 0 behind five payments is no ruin
        premiums(c, 0, 400, 49); // 21 a day
        premiums(c, 9, 220, 100); // 12 a day, the ninth payment in the hour 108
        premiums(c, 8, 220, -1); // the same, an hour too late
        premiums(c, 0, 220, 97);
        premiums(c, 0, 219, -1); // 11 a day: 1 is left behind 100 hours
        exactlyNothing(c);
        rates(c);
        recovers(c);
    }

    private static void premiums(Check c, int passed, int limit, int due) {
        ShadowPool x = new ShadowPool();
        if (passed > 0) {
            x.pass(passed);
        }
        x.reinsure(0, limit);
        c.due("hoursUntilRuin() from " + passed + " on with the limit " + limit, x.hoursUntilRuin(), due);
    }

    // Ten premiums of 10, the last of them in the hundredth hour from now
    private static void exactlyNothing(Check c) {
        ShadowPool x = new ShadowPool();
        x.reinsure(0, 180);
        x.pass(9);
        c.due("hoursUntilRuin(), 0 behind 100 hours", x.hoursUntilRuin(), -1);
        x.pass(60);
        x.pass(40);
        c.due("fund()", x.fund(), 0);
        c.due("hoursUntilRuin(), 0 is no ruin", x.hoursUntilRuin(), 12);
    }

    // The rate and the limit that are set count, not those that another question tried
    private static void rates(Check c) {
        ShadowPool x = new ShadowPool();
        x.addWalker(1, 5, 0);
        int[] rates = {9, 0, 5, 2};
        int[] due = {97, 49, 73, 61};
        for (int i = 0; i < 4; i++) {
            x.setRate(rates[i]);
            x.reinsure(0, 400);
            c.due("fairRate()", x.fairRate(), -1);
            c.due("hoursUntilRuin() with the rate " + rates[i], x.hoursUntilRuin(), due[i]);
            c.due("bestLimit()", x.bestLimit(), 0);
            c.due("hoursUntilRuin() with the rate " + rates[i], x.hoursUntilRuin(), due[i]);
            c.due("fundIn(48)", x.fundIn(48), 100 - 4L * (21 - rates[i]));
        }
    }

    // The first hour of ruin counts, even if the next rates lift the fund above 0 again
    private static void recovers(Check c) {
        ShadowPool x = new ShadowPool();
        for (int i = 0; i < 7; i++) {
            x.addWalker(1, 5, 0);
        }
        x.setRate(9);
        x.pass(10);
        x.addWalker(30, 0, 0);
        c.due("fund(), 7 paid 9", x.fund(), 163);
        c.due("fundIn(1)", x.fundIn(1), 163);
        c.due("fundIn(2), a fall of 180 in the hour 11", x.fundIn(2), -14);
        c.due("fundIn(3), 8 pay 9", x.fundIn(3), 58);
        c.due("hoursUntilRuin()", x.hoursUntilRuin(), 2);
        x.pass(3);
        // 90 in the hour 13, of which the member pays 3
        c.due("hoursUntilRuin(), above 0 again", x.hoursUntilRuin(), 1);
        x.setNet(7, 9);
        // 69 in the hour 13
        c.due("fundIn(1)", x.fundIn(1), -11);
        x.reinsure(50, 20);
        c.due("fundIn(1), 19 of it reinsured", x.fundIn(1), 8);
        c.due("hoursUntilRuin(), the next fall costs 45 - 16 in the hour 15", x.hoursUntilRuin(), 3);
    }

    // Promise 34
    private static void bestLimit(Check c) {
        ShadowPool x = new ShadowPool();
        c.due("bestLimit() without walkers", x.bestLimit(), 0);
        x.reinsure(0, 400);
        c.due("bestLimit(), set otherwise", x.bestLimit(), 0);
        bestLimitOf(c, 16, 4, 7, 27, 2, 0);
        bestLimitOf(c, 28, 0, 4, 154, 5, 20);
        bestLimitOf(c, 28, 0, 1, 141, 5, 40);
        bestLimitOf(c, 27, 2, 0, 116, 2, 60);
        bestLimitOf(c, 29, 2, 1, 106, 11, 80);
        bestLimitOf(c, 30, 4, 3, 45, 2, 100);
        // others would be the best behind 47 hours, or behind 49
        bestLimitOf(c, 17, 2, 7, 55, 1, 40);
        bestLimitOf(c, 14, 2, 3, 29, 13, 60);
        bestLimitOf(c, 28, 5, 7, 94, 12, 0);
        bestLimitOf(c, 24, 0, 0, 60, 23, 80);
        // of two that are as good, the smaller
        bestLimitOf(c, 30, 4, 7, 172, 11, 0);
        bestLimitOf(c, 12, 2, 3, 9, 7, 20);
        bestLimitOf(c, 29, 0, 1, 130, 3, 40);
        bestLimitOf(c, 26, 4, 0, 91, 11, 60);
        bestLimitOf(c, 19, 2, 0, 29, 4, 80);
    }

    private static void bestLimitOf(Check c, int height, int skill, int net, int retention, int passed, int due) {
        String what = "bestLimit() of (" + height + ", " + skill + ", " + net + ") with " + retention;
        int[] funds = new int[6];
        int best = 0;
        for (int i = 0; i < 6; i++) {
            ShadowPool tried = one(height, skill, net, passed);
            tried.reinsure(retention, 20 * i);
            tried.pass(48);
            funds[i] = tried.fund();
            best = funds[i] > funds[best] ? i : best;
        }
        c.due(what + ", by trial", 20L * best, due);
        int[] limits = {0, 20, 100, 101, 400};
        for (int limit : limits) {
            ShadowPool asked = one(height, skill, net, passed);
            asked.reinsure(retention, limit);
            c.due(what + " and " + limit, asked.bestLimit(), due);
            c.due("limit()", asked.limit(), limit);
        }
    }

    private static ShadowPool one(int height, int skill, int net, int passed) {
        ShadowPool x = new ShadowPool();
        x.addWalker(height, skill, net);
        x.pass(passed);
        return x;
    }

    // Promise 35
    private static void fairRate(Check c) {
        ShadowPool x = new ShadowPool();
        c.due("fairRate() without walkers", x.fairRate(), 0);
        x.reinsure(0, 20);
        c.due("fairRate(), a premium and no members", x.fairRate(), -1);
        x.addWalker(1, 5, 0);
        c.due("fairRate(), 2 a day of one", x.fairRate(), 2);
        x.setRate(9);
        c.due("fairRate(), whatever the rate is", x.fairRate(), 2);
        x.setRate(0);
        c.due("fairRate(), whatever the rate is", x.fairRate(), 2);
        x.reinsure(0, 400);
        c.due("fairRate(), 21 a day of one", x.fairRate(), -1);
        x.addWalker(1, 5, 0);
        c.due("fairRate(), 21 a day of two", x.fairRate(), -1);
        x.addWalker(1, 5, 0);
        c.due("fairRate(), 21 a day of three", x.fairRate(), 7);
        x.addWalker(1, 5, 0);
        c.due("fairRate(), 21 a day of four", x.fairRate(), 6);
        x.turnMember(0);
        x.pass(30);
        c.due("fairRate(), from another hour on", x.fairRate(), 7);
        x.reinsure(0, 160);
        c.due("fairRate(), 9 a day of three", x.fairRate(), 3);
        x.turnMember(1);
        x.turnMember(2);
        c.due("fairRate(), 9 a day of one", x.fairRate(), 9);
        x.reinsure(0, 180);
        c.due("fairRate(), 10 a day of one", x.fairRate(), -1);
        fairRateByTrial(c);
        // others would do behind 47 hours, or behind 49
        c.due("fairRate()", one(22, 5, 0, 13).fairRate(), 4);
        c.due("fairRate()", one(6, 1, 2, 5).fairRate(), 7);
        c.due("fairRate()", one(11, 3, 1, 6).fairRate(), 0);
        c.due("fairRate()", one(22, 5, 1, 6).fairRate(), 0);
    }

    private static void fairRateByTrial(Check c) {
        for (int passed = 1; passed <= 40; passed++) {
            int due = -1;
            for (int rate = 9; rate >= 0; rate--) {
                ShadowPool tried = busy();
                tried.pass(passed);
                int before = tried.fund();
                tried.setRate(rate);
                tried.pass(48);
                due = tried.fund() >= before ? rate : due;
            }
            ShadowPool asked = busy();
            asked.pass(passed);
            c.due("fairRate() of a busy pool behind " + passed, asked.fairRate(), due);
        }
    }

    // Promise 36
    private static void meanShadow(Check c) {
        ShadowPool x = new ShadowPool();
        c.dueDouble("meanShadow() without walkers", x.meanShadow(), 0.0);
        x.addWalker(10, 5, 0);
        c.dueDouble("meanShadow()", x.meanShadow(), 60.0);
        x.addWalker(11, 5, 0);
        c.dueDouble("meanShadow()", x.meanShadow(), 63.0);
        x.addWalker(1, 5, 9);
        x.turnMember(2);
        c.dueDouble("meanShadow(), with one who is no member", x.meanShadow(), 44.0);
        x.pass(3);
        // 15, 16 and 1: shadows are whole before their mean is taken
        c.dueDouble("meanShadow() in the hour 3", x.meanShadow(), 32.0 / 3.0);
        x.pass(2);
        c.dueDouble("meanShadow() at noon", x.meanShadow(), 22.0 / 3.0);
        x.addWalker(1, 5, 0);
        c.dueDouble("meanShadow() at noon", x.meanShadow(), 5.75);
    }

    private static void questionsChangeNothing(Check c) {
        ShadowPool asked = busy();
        for (int i = 0; i < 20; i++) {
            c.changesNothing("hoursUntilFall(1)", asked, () -> asked.hoursUntilFall(1));
            c.changesNothing("nextToFall()", asked, asked::nextToFall);
            c.changesNothing("fundIn(60)", asked, () -> asked.fundIn(60));
            c.changesNothing("hoursUntilRuin()", asked, asked::hoursUntilRuin);
            c.changesNothing("bestLimit()", asked, asked::bestLimit);
            c.changesNothing("fairRate()", asked, asked::fairRate);
            c.changesNothing("meanShadow()", asked, asked::meanShadow);
            c.changesNothing("digest()", asked, asked::digest);
            ShadowPool silent = busy();
            silent.pass(5 * i + 1 > 60 ? 60 : 5 * i + 1);
            if (5 * i + 1 > 60) {
                silent.pass(5 * i + 1 - 60);
            }
            asked.pass(i == 0 ? 1 : 5);
            c.due("hour()", asked.hour(), silent.hour());
            c.dueText("a pool that was asked, and one that was not", Check.state(asked), Check.state(silent));
        }
    }

    private static ShadowPool busy() {
        ShadowPool x = new ShadowPool();
        x.addWalker(20, 2, 3);
        x.addWalker(6, 1, 9);
        x.addWalker(13, 3, 5);
        x.addWalker(5, 1, 8);
        x.addWalker(7, 0, 0);
        x.turnMember(4);
        x.setRate(6);
        x.reinsure(15, 75);
        return x;
    }
}
