/** Promise 37: the checksum, told anew from the other answers. */
public final class DigestTest {
    public static void main(String[] args) {
        Check c = new Check();
        ShadowPool x = new ShadowPool();
        c.due("digest() of a new object", x.digest(), fromAnswers(x));
        c.due("digest() asked again", x.digest(), fromAnswers(x));
        // 2069, then 0, 1, 0, 0, 100, 2, 30, 0, 0, -1, 0 and 0, counted outside of this program
        c.due("digest() of a new object", x.digest(), 6361643554251186133L);
        for (int i = 0; i < 8; i++) {
            x.addWalker(3 * i + 4, i % 6, 9 - i);
            c.due("digest() with walkers", x.digest(), fromAnswers(x));
        }
        long before = x.digest();
        x.turnMember(3);
        c.due("digest() is another with one member less", x.digest() != before, true);
        c.due("digest() with one member less", x.digest(), fromAnswers(x));
        for (int i = 1; i <= 40; i++) {
            x.reinsure(5 * i, 10 * i);
            x.setRate(i % 10);
            x.pass(i);
            c.due("digest() behind " + x.hour(), x.digest(), fromAnswers(x));
        }
        c.end();
    }

    private static long fromAnswers(ShadowPool x) {
        java.math.BigInteger d = java.math.BigInteger.valueOf(2069);
        long[] xs = {x.hour(), x.sun(), x.walkers(), x.members(), x.fund(), x.rate(), x.retention(), x.limit(),
            x.reinsurersLoss(), x.nextToFall(), x.bestLimit(), x.fairRate()};
        d = chain(d, xs);
        for (int i = 0; i < x.walkers(); i++) {
            long[] ys = {x.isMember(i) ? 1 : 0, x.netOf(i), x.wobbleOf(i), x.fallsOf(i), x.shadowOf(i), x.costOf(i),
                x.poolPartOf(i), x.reinsuredPartOf(i)};
            d = chain(d, ys);
        }
        // the low 64 bits, which is what wrapping around leaves
        return d.longValue();
    }

    private static java.math.BigInteger chain(java.math.BigInteger d, long[] xs) {
        for (long x : xs) {
            d = d.multiply(java.math.BigInteger.valueOf(31)).add(java.math.BigInteger.valueOf(x));
        }
        return d;
    }
}
