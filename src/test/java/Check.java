/** Compares answers with those that are due, and ends a test with exit code 1 if one was wrong. */
final class Check {
    private int asked = 0;
    private int wrong = 0;

    void due(String call, long got, long want) {
        asked++;
        if (got != want) {
            tell(call + " answered " + got + ", due is " + want);
        }
    }

    void due(String call, boolean got, boolean want) {
        due(call, got ? 1L : 0L, want ? 1L : 0L);
    }

    void dueDouble(String call, double got, double want) {
        asked++;
        if (got != want) {
            tell(call + " answered " + got + ", due is " + want);
        }
    }

    void dueText(String call, String got, String want) {
        asked++;
        if (!got.equals(want)) {
            tell(call + " answered\n  " + got + "\ndue is\n  " + want);
        }
    }

    /** The call must throw just this kind, and leave everything as it was. */
    void refused(String call, ShadowPool pool, Class<? extends RuntimeException> kind, Runnable made) {
        asked++;
        String before = state(pool);
        String thrown = "nothing";
        try {
            made.run();
        } catch (RuntimeException e) {
            thrown = e.getClass().getName();
        }
        if (!thrown.equals(kind.getName())) {
            tell(call + " threw " + thrown + ", due is " + kind.getName());
        }
        dueText(call + ", the state behind it", state(pool), before);
    }

    /** The question must leave everything as it was. */
    void changesNothing(String call, ShadowPool pool, Runnable made) {
        String before = state(pool);
        made.run();
        dueText(call + ", the state behind it", state(pool), before);
    }

    void noSuchWalker(String call, ShadowPool pool, java.util.function.IntConsumer made) {
        int[] numbers = {-1, pool.walkers(), 8, 99, Integer.MAX_VALUE, Integer.MIN_VALUE};
        for (int number : numbers) {
            refused(call + " of " + number, pool, IndexOutOfBoundsException.class, () -> made.accept(number));
        }
    }

    void end() {
        System.out.println(asked + " answers, " + wrong + " not as due");
        if (wrong != 0) {
            System.exit(1);
        }
    }

    private void tell(String what) {
        wrong++;
        System.out.println(what);
    }

    /** All that can be seen of a pool; heights and skills show in the shadows and in the foreseen falls. */
    static String state(ShadowPool x) {
        StringBuilder t = new StringBuilder();
        t.append("hour ").append(x.hour()).append(" sun ").append(x.sun());
        t.append(" noon ").append(x.isNoon()).append(" until ").append(x.hoursUntilNoon());
        t.append(" walkers ").append(x.walkers()).append(" members ").append(x.members());
        t.append(" fund ").append(x.fund()).append(" rate ").append(x.rate());
        t.append(" retention ").append(x.retention()).append(" limit ").append(x.limit());
        t.append(" loss ").append(x.reinsurersLoss());
        t.append(" longest ").append(x.longestShadow()).append(" mean ").append(x.meanShadow());
        for (int i = 0; i < x.walkers(); i++) {
            t.append(" [").append(i).append(": ").append(x.isMember(i)).append(' ').append(x.netOf(i));
            t.append(' ').append(x.wobbleOf(i)).append(' ').append(x.fallsOf(i)).append(' ').append(x.shadowOf(i));
            t.append(' ').append(x.costOf(i)).append(' ').append(x.ownPartOf(i)).append(' ').append(x.poolPartOf(i));
            t.append(' ').append(x.reinsuredPartOf(i)).append(' ').append(x.hoursUntilFall(i)).append(']');
        }
        t.append(" next ").append(x.nextToFall()).append(" in 60 ").append(x.fundIn(60));
        t.append(" ruin ").append(x.hoursUntilRuin()).append(" best ").append(x.bestLimit());
        t.append(" fair ").append(x.fairRate()).append(" digest ").append(x.digest());
        return t.toString();
    }
}
