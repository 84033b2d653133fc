/** The edges of the day, of the fund and of the row of walkers. */
public final class EdgeTest {
    public static void main(String[] args) {
        Check c = new Check();
        fallsInEachHour(c);
        wobblesAroundNoon(c);
        wobbleOfTen(c);
        endOfTheDay(c);
        membersAtTheDaysBegin(c);
        limitAtTheDaysBegin(c);
        netOfNothing(c);
        fundOfNothing(c);
        fundBelowNothing(c);
        ruinAtTheBound(c);
        fairRateAtTheBounds(c);
        bestLimitAtTheBounds(c);
        noWalkers(c);
        eightWalkers(c);
        c.end();
    }

    // One fall in each hour of the day: what it costs, and the member's part at noon and beside it
    private static void fallsInEachHour(Check c) {
        int[] shadows = {180, 90, 60, 45, 36, 30, 30, 36, 45, 60, 90, 180, 180, 90};
        int[] own = {3, 3, 3, 3, 3, 6, 6, 3, 3, 3, 3, 3, 3, 3};
        for (int hour = 1; hour < 14; hour++) {
            ShadowPool x = new ShadowPool();
            if (hour > 1) {
                x.pass(hour - 1);
            }
            x.addWalker(30, 0, 4);
            x.setRate(0);
            c.due("pass(1), 7 or 8 is no fall", x.pass(1), 0);
            String at = " in the hour " + hour;
            c.due("hoursUntilFall(0)" + at, x.hoursUntilFall(0), 1);
            int cost = shadows[hour] - 8;
            c.due("costOf(0)" + at, x.costOf(0), cost);
            c.due("ownPartOf(0)" + at, x.ownPartOf(0), own[hour]);
            c.due("poolPartOf(0)" + at, x.poolPartOf(0), cost - own[hour]);
            c.due("fundIn(1)" + at, x.fundIn(1), 100 - (cost - own[hour]));
            c.due("pass(1)" + at, x.pass(1), 1);
            c.due("fund() behind a fall" + at, x.fund(), 100 - (cost - own[hour]));
            c.due("netOf(0)", x.netOf(0), 3);
        }
    }

    // A height of 4 gives nothing, one of 5 gives 1; the hours 4 and 7 are no noon, 5 and 6 are
    private static void wobblesAroundNoon(Check c) {
        int[] ofDay = {1, 1, 1, 1, 1, 2, 2, 1, 1, 1, 1, 1};
        for (int hour = 0; hour < 25; hour++) {
            ShadowPool x = new ShadowPool();
            if (hour > 0) {
                x.pass(hour);
            }
            int[] heights = {1, 4, 5, 9, 10, 29, 30, 10};
            int[] skills = {0, 0, 0, 0, 0, 0, 0, 5};
            int[] gains = {0, 0, 1, 1, 2, 5, 6, -3};
            for (int w = 0; w < 8; w++) {
                x.addWalker(heights[w], skills[w], 0);
            }
            x.pass(1);
            for (int w = 0; w < 8; w++) {
                long due = Math.max(0, gains[w] + ofDay[hour % 12]);
                c.due("wobbleOf(" + w + ") behind the hour " + hour, x.wobbleOf(w), due);
            }
        }
    }

    // 9 is no fall, 10 is one, and 14 is one
    private static void wobbleOfTen(Check c) {
        ShadowPool x = new ShadowPool();
        x.addWalker(10, 0, 0);
        x.addWalker(20, 0, 0);
        x.addWalker(30, 0, 0);
        c.due("pass(1)", x.pass(1), 0);
        c.due("hoursUntilFall(1), 5 and 5", x.hoursUntilFall(1), 1);
        c.due("hoursUntilFall(2), 7 and 7", x.hoursUntilFall(2), 1);
        c.due("pass(1)", x.pass(1), 2);
        c.due("wobbleOf(1)", x.wobbleOf(1), 0);
        c.due("wobbleOf(2)", x.wobbleOf(2), 0);
        c.due("pass(1)", x.pass(1), 0);
        c.due("wobbleOf(0), 9", x.wobbleOf(0), 9);
        c.due("fallsOf(0)", x.fallsOf(0), 0);
        c.due("rest(0) returns 9", x.rest(0), 9);
        c.due("hoursUntilFall(0), rested: 3, 6, then 4 at noon", x.hoursUntilFall(0), 3);
    }

    // The hours 11, 12 and 13: the sun stands at 1, 1 and 2; the rate is paid in the hour 12 alone
    private static void endOfTheDay(Check c) {
        ShadowPool x = new ShadowPool();
        x.addWalker(10, 2, 0);
        x.pass(8);
        c.due("wobbleOf(0), fallen in the hour 7", x.wobbleOf(0), 0);
        int fund = x.fund();
        int[] suns = {4, 3, 2, 1, 1, 2, 3};
        int[] untilNoon = {9, 8, 7, 6, 5, 4, 3};
        int[] shadows = {15, 20, 30, 60, 60, 30, 20};
        for (int i = 0; i < 7; i++) {
            String at = " in the hour " + (8 + i);
            c.due("hour()", x.hour(), 8 + i);
            c.due("sun()" + at, x.sun(), suns[i]);
            c.due("isNoon()" + at, x.isNoon(), false);
            c.due("hoursUntilNoon()" + at, x.hoursUntilNoon(), untilNoon[i]);
            c.due("shadowOf(0)" + at, x.shadowOf(0), shadows[i]);
            c.due("wobbleOf(0), which a day's end leaves," + at, x.wobbleOf(0), i);
            c.due("fund()" + at, x.fund(), i < 5 ? fund : fund + 2);
            c.due("fundIn(1)" + at, x.fundIn(1), i < 4 ? fund : fund + 2);
            c.due("pass(1)" + at, x.pass(1), 0);
        }
    }

    // Who is a member when the hour 12 begins pays its rate, whatever was before or is after
    private static void membersAtTheDaysBegin(Check c) {
        ShadowPool x = quiet(3);
        x.pass(11);
        c.due("fund(), 3 pay 2", x.fund(), 106);
        x.turnMember(2);
        x.pass(1);
        c.due("fund() behind the hour 11", x.fund(), 106);
        x.turnMember(1);
        x.setRate(7);
        x.pass(1);
        c.due("fund() behind the hour 12: one pays 7", x.fund(), 113);
        x.turnMember(1);
        x.turnMember(2);
        x.pass(11);
        c.due("fund() behind the hour 23", x.fund(), 113);
        x.addWalker(1, 5, 0);
        x.pass(1);
        c.due("fund() behind the hour 24: 4 pay 7", x.fund(), 141);
        for (int w = 0; w < 4; w++) {
            x.turnMember(w);
        }
        x.pass(12);
        c.due("fund() behind the hour 36: no members", x.fund(), 141);
    }

    // The limit counts as it is when the hour 0 of a day begins
    private static void limitAtTheDaysBegin(Check c) {
        ShadowPool x = new ShadowPool();
        x.pass(1);
        c.due("fund(), a limit of 0 costs nothing", x.fund(), 100);
        c.due("reinsurersLoss()", x.reinsurersLoss(), 0);
        x.reinsure(0, 1);
        x.pass(11);
        c.due("fund() behind the hour 11", x.fund(), 100);
        x.pass(1);
        c.due("fund(), a limit of 1 costs 1", x.fund(), 99);
        c.due("reinsurersLoss()", x.reinsurersLoss(), -1);
        x.pass(11);
        x.reinsure(0, 0);
        x.pass(1);
        c.due("fund(), no longer reinsured in the hour 24", x.fund(), 99);
        c.due("reinsurersLoss()", x.reinsurersLoss(), -1);
        x.reinsure(200, 0);
        x.pass(12);
        c.due("fund(), a retention without a limit", x.fund(), 99);
        x.pass(11);
        x.reinsure(200, 400);
        x.pass(1);
        c.due("fund(), the greatest limit from the hour 48 on", x.fund(), 78);
        c.due("reinsurersLoss()", x.reinsurersLoss(), -22);
        ShadowPool one = new ShadowPool();
        one.addWalker(30, 0, 0);
        one.pass(1);
        one.reinsure(0, 0);
        c.due("reinsuredPartOf(0) with a limit of 0", one.reinsuredPartOf(0), 0);
        c.due("pass(1)", one.pass(1), 1);
        c.due("fund(), all of the claim", one.fund(), 102 - 87);
        c.due("reinsurersLoss()", one.reinsurersLoss(), 0);
    }

    // A net of 1 is 0 behind a fall, one of 0 stays; a cost is never less than 0
    private static void netOfNothing(Check c) {
        ShadowPool x = new ShadowPool();
        x.addWalker(20, 0, 1);
        x.addWalker(20, 0, 0);
        x.addWalker(20, 0, 9);
        x.pass(2);
        c.due("netOf(0)", x.netOf(0), 0);
        c.due("netOf(1)", x.netOf(1), 0);
        c.due("netOf(2)", x.netOf(2), 8);
        x.pass(2);
        c.due("netOf(0)", x.netOf(0), 0);
        c.due("netOf(2)", x.netOf(2), 7);
        ShadowPool low = new ShadowPool();
        low.addWalker(9, 0, 9);
        low.pass(4);
        low.setNet(0, 9);
        c.due("costOf(0), 10 - 18", low.costOf(0), 0);
        c.due("ownPartOf(0)", low.ownPartOf(0), 0);
        c.due("poolPartOf(0)", low.poolPartOf(0), 0);
        c.due("pass(1)", low.pass(1), 1);
        c.due("fund(), a fall that costs nothing", low.fund(), 102);
        c.due("netOf(0), 1 less all the same", low.netOf(0), 8);
    }

    // A fund of 0 is no ruin, and -1 is one
    private static void fundOfNothing(Check c) {
        ShadowPool x = new ShadowPool();
        x.reinsure(0, 380);
        x.pass(60);
        c.due("fund(), 5 times 20 less", x.fund(), 0);
        x.reinsure(0, 0);
        c.due("hoursUntilRuin() with a fund of 0", x.hoursUntilRuin(), -1);
        c.due("fairRate() with a fund of 0", x.fairRate(), 0);
        x.reinsure(0, 1);
        c.due("hoursUntilRuin(), -1 behind the next hour", x.hoursUntilRuin(), 1);
        c.due("fundIn(1)", x.fundIn(1), -1);
        c.due("fairRate()", x.fairRate(), -1);
        x.pass(1);
        c.due("fund()", x.fund(), -1);
        c.due("hoursUntilRuin() with a fund of -1", x.hoursUntilRuin(), 0);
        ShadowPool saved = new ShadowPool();
        saved.reinsure(0, 380);
        saved.pass(60);
        saved.reinsure(0, 20);
        saved.addWalker(1, 5, 0);
        c.due("hoursUntilRuin(), 2 are paid and 2 come in", saved.hoursUntilRuin(), -1);
        saved.pass(1);
        c.due("fund()", saved.fund(), 0);
    }

    // What is below 0 goes on: rates lift it, and it is compared as it is
    private static void fundBelowNothing(Check c) {
        ShadowPool x = quiet(1);
        x.reinsure(0, 400);
        x.setRate(0);
        x.pass(60);
        c.due("fund(), 5 times 21 less", x.fund(), -5);
        c.due("hoursUntilRuin()", x.hoursUntilRuin(), 0);
        c.due("fundIn(1)", x.fundIn(1), -26);
        c.due("fundIn(60)", x.fundIn(60), -110);
        c.due("fairRate()", x.fairRate(), -1);
        c.due("bestLimit()", x.bestLimit(), 0);
        x.reinsure(0, 0);
        c.due("fairRate() below 0, not reinsured", x.fairRate(), 0);
        c.due("fundIn(60) below 0", x.fundIn(60), -5);
        x.setRate(5);
        c.due("hoursUntilRuin(), less than 0 now, whatever comes", x.hoursUntilRuin(), 0);
        x.pass(1);
        c.due("fund(), 0 again", x.fund(), 0);
        c.due("hoursUntilRuin()", x.hoursUntilRuin(), -1);
        x.reinsure(0, 60);
        c.due("fairRate(), 4 a day", x.fairRate(), 4);
    }

    // -1 behind the hundredth hour from now, and behind the one after that
    private static void ruinAtTheBound(Check c) {
        ShadowPool x = new ShadowPool();
        x.reinsure(0, 20);
        x.pass(8);
        x.reinsure(0, 200);
        c.due("fund()", x.fund(), 98);
        c.due("hoursUntilRuin(), -1 behind 101 hours", x.hoursUntilRuin(), -1);
        x.pass(1);
        c.due("hoursUntilRuin(), -1 behind 100 hours", x.hoursUntilRuin(), 100);
        x.pass(1);
        c.due("hoursUntilRuin(), -1 behind 99 hours", x.hoursUntilRuin(), 99);
        x.pass(60);
        x.pass(38);
        c.due("fund()", x.fund(), 10);
        c.due("hoursUntilRuin(), in the next hour", x.hoursUntilRuin(), 1);
        x.pass(1);
        c.due("fund()", x.fund(), -1);
        c.due("hoursUntilRuin(), now", x.hoursUntilRuin(), 0);
    }

    // Four days of premiums and rates: as much as now is enough, and one less is not
    private static void fairRateAtTheBounds(Check c) {
        ShadowPool x = quiet(2);
        int[] limits = {0, 1, 19, 20, 339, 340, 359, 360};
        int[] due = {0, 1, 1, 1, 9, 9, 9, -1};
        for (int i = 0; i < limits.length; i++) {
            x.reinsure(30, limits[i]);
            c.due("fairRate() of two with the limit " + limits[i], x.fairRate(), due[i]);
        }
        ShadowPool y = quiet(1);
        y.pass(1);
        // 48 hours from the hour 1 on pay four times, in the hours 12, 24, 36 and 48
        y.reinsure(30, 160);
        c.due("fairRate() from the hour 1 on", y.fairRate(), 9);
        y.reinsure(30, 180);
        c.due("fairRate() from the hour 1 on, 9 is not enough", y.fairRate(), -1);
        ShadowPool none = new ShadowPool();
        none.reinsure(0, 1);
        c.due("fairRate(), nobody to pay it", none.fairRate(), -1);
        ShadowPool gone = quiet(8);
        for (int w = 0; w < 8; w++) {
            gone.turnMember(w);
        }
        c.due("fairRate() of 8 who are no members", gone.fairRate(), 0);
        gone.reinsure(0, 1);
        c.due("fairRate() of 8 who are no members, with a premium", gone.fairRate(), -1);
    }

    // 0 is the best without claims, 100 with dear ones, and none above it is tried
    private static void bestLimitAtTheBounds(Check c) {
        ShadowPool never = quiet(8);
        never.reinsure(0, 400);
        c.due("bestLimit() without falls", never.bestLimit(), 0);
        c.due("limit(), as it was", never.limit(), 400);
        ShadowPool dear = new ShadowPool();
        for (int w = 0; w < 8; w++) {
            dear.addWalker(30, 0, 0);
        }
        int[] retentions = {0, 200};
        int[] due = {100, 0};
        for (int i = 0; i < 2; i++) {
            dear.reinsure(retentions[i], 0);
            c.due("bestLimit() of 8 above " + retentions[i], dear.bestLimit(), due[i]);
            dear.reinsure(retentions[i], 400);
            c.due("bestLimit() of 8 above " + retentions[i], dear.bestLimit(), due[i]);
        }
        for (int w = 0; w < 8; w++) {
            dear.turnMember(w);
        }
        dear.reinsure(0, 0);
        c.due("bestLimit() of 8 who are no members", dear.bestLimit(), 0);
    }

    private static void noWalkers(Check c) {
        ShadowPool x = new ShadowPool();
        x.setRate(9);
        for (int hour = 0; hour < 25; hour++) {
            c.due("walkers()", x.walkers(), 0);
            c.due("members()", x.members(), 0);
            c.due("longestShadow()", x.longestShadow(), -1);
            c.due("nextToFall()", x.nextToFall(), -1);
            c.dueDouble("meanShadow()", x.meanShadow(), 0.0);
            c.due("fund()", x.fund(), 100);
            c.due("fundIn(60)", x.fundIn(60), 100);
            c.due("hoursUntilRuin()", x.hoursUntilRuin(), -1);
            c.due("bestLimit()", x.bestLimit(), 0);
            c.due("fairRate()", x.fairRate(), 0);
            c.due("pass(1)", x.pass(1), 0);
        }
        c.due("hour()", x.hour(), 25);
    }

    // The first and the last of 8, and all of them together
    private static void eightWalkers(Check c) {
        ShadowPool x = new ShadowPool();
        for (int w = 0; w < 8; w++) {
            c.due("addWalker", x.addWalker(w == 7 ? 30 : 10, w == 7 ? 0 : 1, 0), w);
        }
        c.due("walkers()", x.walkers(), 8);
        c.due("members()", x.members(), 8);
        c.due("longestShadow(), the last", x.longestShadow(), 7);
        c.due("nextToFall(), the last", x.nextToFall(), 7);
        c.dueDouble("meanShadow()", x.meanShadow(), 600.0 / 8.0);
        c.due("fundIn(1), 8 pay 2", x.fundIn(1), 116);
        c.due("pass(2)", x.pass(2), 1);
        c.due("fallsOf(7)", x.fallsOf(7), 1);
        c.due("fallsOf(0)", x.fallsOf(0), 0);
        c.due("fund()", x.fund(), 116 - 87);
        x.rest(7);
        c.due("nextToFall(), the last again", x.nextToFall(), 7);
        x.pass(1);
        x.rest(7);
        x.pass(1);
        c.due("nextToFall(), of 8 at once the first", x.nextToFall(), 0);
        c.due("hoursUntilFall(0)", x.hoursUntilFall(0), 1);
        c.due("hoursUntilFall(6)", x.hoursUntilFall(6), 1);
        c.due("hoursUntilFall(7)", x.hoursUntilFall(7), 1);
        c.due("pass(1), 8 at once", x.pass(1), 8);
        c.due("turnMember(7)", x.turnMember(7), false);
        c.due("members()", x.members(), 7);
    }

    // Walkers who never fall
    private static ShadowPool quiet(int count) {
        ShadowPool x = new ShadowPool();
        for (int i = 0; i < count; i++) {
            x.addWalker(1, 5, 0);
        }
        return x;
    }
}
