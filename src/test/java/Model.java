/**
 * The document told a second time, as plainly as can be and with no thought of speed: what would be is
 * asked of a copy. It refuses nothing; the tests ask it only what the document allows.
 */
final class Model {
    static final int[] SUN = {1, 2, 3, 4, 5, 6, 6, 5, 4, 3, 2, 1};

    int hour = 0;
    int fund = 100;
    int rate = 2;
    int retention = 30;
    int limit = 0;
    int loss = 0;
    int count = 0;
    int[] height = new int[8];
    int[] skill = new int[8];
    int[] net = new int[8];
    int[] wobble = new int[8];
    int[] falls = new int[8];
    boolean[] member = new boolean[8];

    Model copy() {
        Model m = new Model();
        m.hour = hour;
        m.fund = fund;
        m.rate = rate;
        m.retention = retention;
        m.limit = limit;
        m.loss = loss;
        m.count = count;
        m.height = height.clone();
        m.skill = skill.clone();
        m.net = net.clone();
        m.wobble = wobble.clone();
        m.falls = falls.clone();
        m.member = member.clone();
        return m;
    }

    int add(int itsHeight, int itsSkill, int itsNet) {
        height[count] = itsHeight;
        skill[count] = itsSkill;
        net[count] = itsNet;
        member[count] = true;
        return count++;
    }

    int members() {
        int n = 0;
        for (boolean one : member) {
            n += one ? 1 : 0;
        }
        return n;
    }

    int sun() {
        return SUN[hour % 12];
    }

    boolean noon() {
        return sun() == 6;
    }

    int untilNoon() {
        int n = 0;
        while (SUN[(hour + n) % 12] != 6) {
            n++;
        }
        return n;
    }

    int shadow(int w) {
        return height[w] * 6 / sun();
    }

    int longest() {
        int best = -1;
        for (int w = count - 1; w >= 0; w--) {
            if (best < 0 || shadow(w) >= shadow(best)) {
                best = w;
            }
        }
        return best;
    }

    double mean() {
        double sum = 0;
        for (int w = 0; w < count; w++) {
            sum += shadow(w);
        }
        return count == 0 ? 0 : sum / count;
    }

    int cost(int w) {
        int cost = shadow(w) - 2 * net[w];
        return cost < 0 ? 0 : cost;
    }

    int own(int w) {
        int fee = noon() ? 6 : 3;
        return !member[w] || cost(w) < fee ? cost(w) : fee;
    }

    int reinsured(int w) {
        int claim = cost(w) - own(w);
        if (claim <= retention) {
            return 0;
        }
        return claim - retention > limit ? limit : claim - retention;
    }

    int pool(int w) {
        return cost(w) - own(w) - reinsured(w);
    }

    int step() {
        if (hour % 12 == 0) {
            fund += members() * rate;
            if (limit != 0) {
                fund -= limit / 20 + 1;
                loss -= limit / 20 + 1;
            }
        }
        int fell = 0;
        for (int w = 0; w < count; w++) {
            wobble[w] += height[w] / 5 + (noon() ? 2 : 1) - skill[w];
            if (wobble[w] < 0) {
                wobble[w] = 0;
            }
            if (wobble[w] >= 10) {
                if (member[w]) {
                    fund -= pool(w);
                    loss += reinsured(w);
                }
                falls[w]++;
                fell++;
                wobble[w] = 0;
                net[w] = net[w] == 0 ? 0 : net[w] - 1;
            }
        }
        hour++;
        return fell;
    }

    int pass(int hours) {
        int fell = 0;
        for (int i = 0; i < hours; i++) {
            fell += step();
        }
        return fell;
    }

    int untilFall(int w) {
        Model m = copy();
        for (int h = 1; h <= 100; h++) {
            m.step();
            if (m.falls[w] > falls[w]) {
                return h;
            }
        }
        return -1;
    }

    int nextToFall() {
        Model m = copy();
        for (int h = 1; h <= 100; h++) {
            m.step();
            for (int w = 0; w < count; w++) {
                if (m.falls[w] > falls[w]) {
                    return w;
                }
            }
        }
        return -1;
    }

    int fundIn(int hours) {
        Model m = copy();
        m.pass(hours);
        return m.fund;
    }

    int untilRuin() {
        Model m = copy();
        for (int h = 0; h <= 100; h++) {
            if (m.fund < 0) {
                return h;
            }
            m.step();
        }
        return -1;
    }

    int fundWithLimit(int tried) {
        Model m = copy();
        m.limit = tried;
        return m.fundIn(48);
    }

    int bestLimit() {
        int best = 100;
        for (int tried = 80; tried >= 0; tried -= 20) {
            if (fundWithLimit(tried) >= fundWithLimit(best)) {
                best = tried;
            }
        }
        return best;
    }

    int fairRate() {
        for (int tried = 0; tried < 10; tried++) {
            Model m = copy();
            m.rate = tried;
            if (m.fundIn(48) >= fund) {
                return tried;
            }
        }
        return -1;
    }

    long digest() {
        long d = 2069;
        long[] xs = {hour, sun(), count, members(), fund, rate, retention, limit, loss, nextToFall(), bestLimit(),
            fairRate()};
        for (long x : xs) {
            d = d * 31 + x;
        }
        for (int w = 0; w < count; w++) {
            long[] ys = {member[w] ? 1 : 0, net[w], wobble[w], falls[w], shadow(w), cost(w), pool(w), reinsured(w)};
            for (long y : ys) {
                d = d * 31 + y;
            }
        }
        return d;
    }
}
