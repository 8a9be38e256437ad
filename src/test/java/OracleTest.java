import java.math.BigInteger;
import java.util.ArrayList;
import java.util.Arrays;
import java.util.List;
import java.util.Random;
import java.util.TreeMap;

/**
 * Long runs of drawn calls on BackLoans and on a second program, written apart from it in the slowest
 * and plainest way (people as classes over one another, all orders, all ways, all chests tried).
 * Every answer, and the digest and STATUS behind every call, must be the same.
 */
public final class OracleTest {
    static class Steady {
        int kind, means, purse;

        static Steady of(int kind, int means, int purse) {
            Steady s = kind == 0 ? new Steady() : kind == 1 ? new FieldHand() : kind == 2 ? new Spender()
                    : kind == 3 ? new Gleaner() : kind == 4 ? new Heir() : new Miser();
            s.kind = kind;
            s.means = means;
            s.purse = purse;
            return s;
        }

        void get(int n) {
            purse = Math.min(9999, purse + n);
        }

        void month(int m) {
            get(means);
        }

        void spend() {
        }

        boolean gives(int pence) {
            return purse >= pence;
        }
    }

    static class FieldHand extends Steady {
        @Override void month(int m) {
            if (m % 3 != 0) super.month(m);
        }
    }

    static class Spender extends Steady {
        @Override void spend() {
            if (purse > 50) purse -= purse / 2 + purse % 2;
        }
    }

    static final class Gleaner extends FieldHand {
        @Override void month(int m) {
            super.month(m);
            get(2);
        }
    }

    static final class Heir extends Spender {
        @Override void month(int m) {
            if (m % 12 == 6) get(60);
            super.month(m);
        }
    }

    static final class Miser extends Steady {
        @Override boolean gives(int pence) {
            return purse >= 2 * pence;
        }
    }

    static final class Loan {
        int person, pence, times, state, given;

        Loan(int person, int pence, int times) {
            this.person = person;
            this.pence = pence;
            this.times = times;
        }

        Loan copy() {
            Loan l = new Loan(person, pence, times);
            l.state = state;
            l.given = given;
            return l;
        }
    }

    static final class World {
        int chest, rate, month, lacks;
        List<Steady> people = new ArrayList<>();
        List<Loan> loans = new ArrayList<>();
        List<int[]> offers = new ArrayList<>();
        List<World> past = new ArrayList<>();

        World copy(boolean withPast) {
            World w = new World();
            w.chest = chest;
            w.rate = rate;
            w.month = month;
            w.lacks = lacks;
            for (Steady s : people) w.people.add(Steady.of(s.kind, s.means, s.purse));
            for (Loan l : loans) w.loans.add(l.copy());
            w.offers.addAll(offers);
            if (withPast) w.past.addAll(past);
            return w;
        }

        int whole(Loan l) {
            int all = l.pence * l.times;
            return all + all * rate / 100;
        }

        int are(int state) {
            return (int) loans.stream().filter(l -> l.state == state).count();
        }

        void live(boolean[] dry) {
            for (int p = 0; p < people.size(); p++) {
                if (!dry[p]) people.get(p).month(month);
                people.get(p).spend();
            }
            for (Loan l : loans) {
                if (l.state != 0) continue;
                Steady s = people.get(l.person);
                if (!s.gives(l.pence)) {
                    l.state = 2;
                    continue;
                }
                s.purse -= l.pence;
                chest = Math.min(99999, chest + l.pence);
                if (++l.given == l.times) l.state = 3;
            }
            for (Loan l : loans) {
                if (l.state != 3) continue;
                if (chest < whole(l)) {
                    lacks++;
                } else {
                    chest -= whole(l);
                    people.get(l.person).get(whole(l));
                    l.state = 1;
                }
            }
            month++;
        }

        World ahead(int m) {
            World w = copy(false);
            for (int i = 0; i < m; i++) w.live(new boolean[6]);
            return w;
        }

        void keep() {
            past.add(copy(false));
            if (past.size() > 8) past.remove(0);
        }
    }

    World now = new World();
    final World[] images = new World[2];
    String text = "";
    BigInteger above = BigInteger.ZERO, below = BigInteger.ONE;
    final int[] refused = new int[3];

    int bad() {
        refused[0]++;
        return -2;
    }

    int no() {
        refused[1]++;
        return -3;
    }

    int full() {
        refused[2]++;
        return -4;
    }

    static boolean in(int n, int a, int b) {
        return a <= n && n <= b;
    }

    boolean isPerson(int p) {
        return in(p, 0, now.people.size() - 1);
    }

    boolean isLoan(int l) {
        return in(l, 0, now.loans.size() - 1);
    }

    long answer(String call, int[] a) {
        switch (call) {
            case "chest": { if (!in(a[0], 0, 99999)) return bad(); int was = now.chest; now.chest = a[0]; return was; }
            case "rate": { if (!in(a[0], 0, 50)) return bad(); int was = now.rate; now.rate = a[0]; return was; }
            case "person": {
                if (!in(a[0], 0, 5) || !in(a[1], 0, 99) || !in(a[2], 0, 9999)) return bad();
                if (now.people.size() == 6) return full();
                now.people.add(Steady.of(a[0], a[1], a[2]));
                return now.people.size() - 1;
            }
            case "loan": {
                if (!isPerson(a[0]) || !in(a[1], 1, 99) || !in(a[2], 1, 12)) return bad();
                if (now.loans.size() == 8) return full();
                now.loans.add(new Loan(a[0], a[1], a[2]));
                return now.loans.size() - 1;
            }
            case "offer": {
                if (!in(a[0], 1, 99) || !in(a[1], 1, 12)) return bad();
                if (now.offers.size() == 8) return full();
                now.offers.add(new int[] {a[0], a[1]});
                return now.offers.size() - 1;
            }
            case "none": { int n = now.offers.size(); now.offers.clear(); return n; }
            case "type": {
                if (!in(a[0], 0, 127)) return bad();
                if (text.length() == 150) return full();
                text += (char) a[0];
                return text.length();
            }
            case "clear": { int n = text.length(); text = ""; return n; }
            case "read": return read();
            case "pass": {
                if (!in(a[0], 1, 12)) return bad();
                int before = now.are(1);
                for (int i = 0; i < a[0]; i++) {
                    now.keep();
                    now.live(new boolean[6]);
                }
                return now.are(1) - before;
            }
            case "join": return join(a[0], a[1]);
            case "sell": return sell(a[0], a[1], a[2]);
            case "undo": return undo();
            case "whose": {
                if (!isPerson(a[0]) || !in(a[1], 0, 2)) return bad();
                Steady s = now.people.get(a[0]);
                return new int[] {s.kind, s.means, s.purse}[a[1]];
            }
            case "about": {
                if (!isLoan(a[0]) || !in(a[1], 0, 5)) return bad();
                Loan l = now.loans.get(a[0]);
                return new int[] {l.person, l.pence, l.times, l.state, l.given, now.whole(l)}[a[1]];
            }
            case "foretold": {
                if (!in(a[0], 0, 60) || !in(a[1], 0, 4)) return bad();
                World w = now.ahead(a[0]);
                return new int[] {w.chest, w.lacks, w.are(1), w.are(2), w.are(3)}[a[1]];
            }
            case "purse": {
                if (!in(a[0], 0, 60) || !isPerson(a[1])) return bad();
                return now.ahead(a[0]).people.get(a[1]).purse;
            }
            case "loanThen": {
                if (!in(a[0], 0, 60) || !isLoan(a[1]) || !in(a[2], 0, 1)) return bad();
                Loan l = now.ahead(a[0]).loans.get(a[1]);
                return a[2] == 0 ? l.state : l.given;
            }
            case "lack": {
                if (!in(a[0], 0, 60)) return bad();
                for (int k = 0; k < a[0]; k++) if (now.ahead(k + 1).lacks > now.ahead(k).lacks) return k;
                return -1;
            }
            case "holds": return holds(a[0]);
            case "best": return best(a[0], a[1]);
            case "joins": return joins();
            case "run": return run(a[0]);
            case "will": return will(a[0], a[1], a[2]);
            case "whom": {
                if (!in(a[0], 0, 59)) return bad();
                World w = now.ahead(a[0]), v = now.ahead(a[0] + 1);
                int bits = 0;
                for (int l = 0; l < w.loans.size(); l++) {
                    boolean had = w.loans.get(l).state != 1 && v.loans.get(l).state == 1;
                    if (had && now.whole(now.loans.get(l)) == a[1]) bits += 1 << l;
                }
                return bits;
            }
            case "price": {
                if (!isLoan(a[0])) return bad();
                Loan l = now.loans.get(a[0]);
                return l.pence * l.given * l.given / l.times;
            }
            case "luck": return luck(a[0], a[1]);
            case "drawn": return drawn(a[0], a[1], a[2], a[3]);
            case "part": return a[0] == 0 ? above.longValueExact() : a[0] == 1 ? below.longValueExact() : bad();
            case "image": { if (!in(a[0], 0, 1)) return bad(); images[a[0]] = now.copy(true); return 1; }
            case "from": {
                if (!in(a[0], 0, 1)) return bad();
                if (images[a[0]] == null) return no();
                now = images[a[0]].copy(true);
                return 1;
            }
            case "status": { if (in(a[0], 0, 2)) return refused[a[0]]; bad(); return -1; }
            case "count": return in(a[0], 0, 8) ? counts()[a[0]] : bad();
            case "digest": return digest();
            default: throw new AssertionError(call);
        }
    }

    int[] counts() {
        return new int[] {now.chest, now.rate, now.month, now.people.size(), now.loans.size(), now.offers.size(),
            now.lacks, now.past.size(), text.length()};
    }

    long digest() {
        List<Long> all = new ArrayList<>();
        for (int c : counts()) all.add((long) c);
        for (Steady s : now.people) for (int v : new int[] {s.kind, s.means, s.purse}) all.add((long) v);
        for (Loan l : now.loans) {
            for (int v : new int[] {l.person, l.pence, l.times, l.state, l.given}) all.add((long) v);
        }
        for (int[] o : now.offers) for (int v : o) all.add((long) v);
        all.add(above.longValueExact());
        all.add(below.longValueExact());
        long h = 839;
        for (long v : all) h = 31 * h + v;
        return h;
    }

    int join(int a, int b) {
        if (!isLoan(a) || !isLoan(b) || a == b) return bad();
        Loan x = now.loans.get(a), y = now.loans.get(b);
        if (x.state != 2 || y.state != 2 || x.pence != y.pence || x.times != y.times) return no();
        now.keep();
        x.given += y.given;
        y.state = 4;
        if (x.given >= x.times) {
            x.given = x.times;
            x.state = 3;
        }
        return x.state;
    }

    int sell(int loan, int to, int price) {
        if (!isLoan(loan) || !isPerson(to) || !in(price, 0, 9999)) return bad();
        Loan l = now.loans.get(loan);
        if (l.person == to) return bad();
        if (l.state != 0 && l.state != 2 || now.people.get(to).purse < price) return no();
        now.keep();
        int was = l.person;
        now.people.get(to).purse -= price;
        now.people.get(was).get(price);
        l.person = to;
        return was;
    }

    int undo() {
        if (now.past.isEmpty()) return no();
        World then = now.past.remove(now.past.size() - 1);
        now.chest = then.chest;
        now.lacks = then.lacks;
        now.month = then.month;
        for (int p = 0; p < then.people.size(); p++) now.people.get(p).purse = then.people.get(p).purse;
        for (int l = 0; l < then.loans.size(); l++) now.loans.set(l, then.loans.get(l).copy());
        return 1;
    }

    int holds(int m) {
        if (!in(m, 0, 60)) return bad();
        for (int c = 0; c <= 9999; c++) {
            World w = now.copy(false);
            w.chest = c;
            for (int i = 0; i < m && w.lacks == now.lacks; i++) w.live(new boolean[6]);
            if (w.lacks == now.lacks) return c;
        }
        return -1;
    }

    int best(int person, int what) {
        if (!isPerson(person) || !in(what, 0, 1)) return bad();
        int n = now.loans.size(), mostGain = 0, found = 0;
        for (int set = 0; set < 1 << now.offers.size(); set++) {
            if (n + Integer.bitCount(set) > 8) continue;
            World w = now.copy(false);
            int gain = 0;
            for (int o = 0; o < w.offers.size(); o++) {
                if ((set >> o & 1) == 0) continue;
                Loan l = new Loan(person, w.offers.get(o)[0], w.offers.get(o)[1]);
                w.loans.add(l);
                gain += w.whole(l) - l.pence * l.times;
            }
            w = w.ahead(12);
            int holes = 0, ownHoles = 0;
            for (int l = 0; l < w.loans.size(); l++) {
                if (w.loans.get(l).state == 2) {
                    if (l < n) holes++;
                    else ownHoles++;
                }
            }
            if (ownHoles == 0 && holes <= now.ahead(12).are(2) && gain > mostGain) {
                mostGain = gain;
                found = set;
            }
        }
        return what == 0 ? mostGain : found;
    }

    int joins() {
        for (int size = 1; size <= 8; size++) {
            for (int set = 1; set < 1 << now.loans.size(); set++) {
                if (Integer.bitCount(set) != size) continue;
                List<Loan> chosen = new ArrayList<>();
                for (int l = 0; l < 8; l++) if ((set >> l & 1) == 1) chosen.add(now.loans.get(l));
                Loan f = chosen.get(0);
                boolean like = chosen.stream().allMatch(l -> l.state == 2 && l.pence == f.pence && l.times == f.times);
                if (like && chosen.stream().mapToInt(l -> l.given).sum() >= f.times) return set;
            }
        }
        return -1;
    }

    int run(int what) {
        if (!in(what, 0, 3)) return bad();
        List<Integer> wants = new ArrayList<>();
        for (Loan l : now.loans) {
            int want = l.state == 3 ? now.whole(l) : l.state == 0 || l.state == 2 ? l.pence * l.given : 0;
            if (want > 0) wants.add(want);
        }
        int all = wants.stream().mapToInt(Integer::intValue).sum();
        if (what == 3) return all > now.chest ? all - now.chest : 0;
        if (what == 2) {
            int most = 0;
            for (int set = 0; set < 1 << wants.size(); set++) {
                int sum = 0;
                for (int i = 0; i < wants.size(); i++) if ((set >> i & 1) == 1) sum += wants.get(i);
                if (sum <= now.chest) most = Math.max(most, Integer.bitCount(set));
            }
            return most;
        }
        int left = now.chest, paid = 0;
        for (int w : wants) {
            if (w <= left) {
                left -= w;
                paid++;
            }
        }
        return what == 0 ? paid : left;
    }

    List<Integer> bestWay;
    int bestLeast;

    int will(int person, int heirs, int i) {
        if (!isPerson(person) || heirs < 0 || heirs >= 1 << now.people.size()
                || Integer.bitCount(heirs) > 3 || i < -1) {
            bad();
            return -10;
        }
        if (heirs == 0 || (heirs >> person & 1) == 1) return -1;
        List<Integer> worth = new ArrayList<>();
        for (Loan l : now.loans) {
            if (l.person == person && l.state != 1 && l.state != 4) worth.add(l.pence * l.given);
        }
        bestWay = null;
        bestLeast = -1;
        leave(worth, heirs, new ArrayList<>(), new int[6]);
        if (i == -1) return bestLeast;
        return i < bestWay.size() ? bestWay.get(i) : -5;
    }

    void leave(List<Integer> worth, int heirs, List<Integer> way, int[] gets) {
        if (way.size() == worth.size()) {
            int least = Integer.MAX_VALUE;
            for (int p = 0; p < 6; p++) if ((heirs >> p & 1) == 1) least = Math.min(least, gets[p]);
            if (least > bestLeast) {
                bestLeast = least;
                bestWay = new ArrayList<>(way);
            }
            return;
        }
        int w = worth.get(way.size());
        for (int p = 0; p < 6; p++) {
            if ((heirs >> p & 1) == 0) continue;
            way.add(p);
            gets[p] += w;
            leave(worth, heirs, way, gets);
            gets[p] -= w;
            way.remove(way.size() - 1);
        }
    }

    int luck(int loan, int c) {
        if (!isLoan(loan) || !in(c, 0, 10)) return bad();
        Loan l = now.loans.get(loan);
        if (l.state != 0) return no();
        Steady s = now.people.get(l.person);
        int months = l.times - l.given;
        above = cases(s.purse, s.means, l.pence, months, c);
        below = BigInteger.TEN.pow(months);
        BigInteger g = above.gcd(below);
        above = above.divide(g);
        below = below.divide(g);
        return 1;
    }

    /** All paths, a full purse and all. */
    BigInteger cases(int purse, int means, int pence, int months, int c) {
        if (months == 0) return BigInteger.ONE;
        BigInteger sum = BigInteger.ZERO;
        int with = Math.min(9999, purse + means);
        if (with >= pence) {
            sum = sum.add(BigInteger.valueOf(c).multiply(cases(with - pence, means, pence, months - 1, c)));
        }
        if (purse >= pence) {
            sum = sum.add(BigInteger.valueOf(10 - c).multiply(cases(purse - pence, means, pence, months - 1, c)));
        }
        return sum;
    }

    int drawn(int seed, int w, int m, int what) {
        if (!in(seed, 0, 999999) || !in(w, 0, 100) || !in(m, 0, 60) || !in(what, 0, 1)) return bad();
        World v = now.copy(false);
        BigInteger x = BigInteger.valueOf(seed);
        for (int i = 0; i < m; i++) {
            boolean[] dry = new boolean[6];
            for (int p = 0; p < v.people.size(); p++) {
                x = x.multiply(BigInteger.valueOf(1103515245)).add(BigInteger.valueOf(12345))
                        .mod(BigInteger.valueOf(2147483648L));
                dry[p] = x.shiftRight(16).mod(BigInteger.valueOf(100)).intValue() < w;
            }
            v.live(dry);
        }
        return v.are(what == 0 ? 1 : 2);
    }

    int read() {
        List<String> tokens = new ArrayList<>();
        List<Integer> places = new ArrayList<>();
        java.util.regex.Matcher m = java.util.regex.Pattern.compile("[a-z]+|[0-9]+|[^ ]", 32).matcher(text);
        while (m.find()) {
            tokens.add(m.group());
            places.add(m.start());
        }
        World w = new World();
        int at = 0, items = 0;
        while (true) {
            if (at == tokens.size()) {
                if (items == 0) return -10 - text.length();
                break;
            }
            String word = tokens.get(at);
            boolean may = items == 0 ? word.equals("chest")
                    : word.equals("rate") || word.equals("person") && w.people.size() < 6
                    || word.equals("loan") && w.loans.size() < 8 || word.equals("offer") && w.offers.size() < 8;
            if (!may) return -10 - places.get(at);
            at++;
            int[][] ranges = word.equals("chest") ? new int[][] {{0, 99999}} : word.equals("rate") ? new int[][] {{0, 50}}
                    : word.equals("person") ? new int[][] {{0, 5}, {0, 99}, {0, 9999}}
                    : word.equals("loan") ? new int[][] {{0, w.people.size() - 1}, {1, 99}, {1, 12}}
                    : new int[][] {{1, 99}, {1, 12}};
            int[] n = new int[3];
            for (int i = 0; i < ranges.length; i++, at++) {
                if (at == tokens.size()) return -10 - text.length();
                String t = tokens.get(at);
                if (!t.matches("[0-9]{1,5}")) return -10 - places.get(at);
                n[i] = Integer.parseInt(t);
                if (!in(n[i], ranges[i][0], ranges[i][1])) return -10 - places.get(at);
            }
            if (at == tokens.size()) return -10 - text.length();
            if (!tokens.get(at).equals(";")) return -10 - places.get(at);
            at++;
            items++;
            if (word.equals("chest")) w.chest = n[0];
            if (word.equals("rate")) w.rate = n[0];
            if (word.equals("person")) w.people.add(Steady.of(n[0], n[1], n[2]));
            if (word.equals("loan")) w.loans.add(new Loan(n[0], n[1], n[2]));
            if (word.equals("offer")) w.offers.add(new int[] {n[0], n[1]});
        }
        now = w;
        return items;
    }

    // ---- the two side by side

    static long ask(BackLoans x, String call, int[] a) {
        switch (call) {
            case "chest": return x.chest(a[0]);
            case "rate": return x.rate(a[0]);
            case "person": return x.person(a[0], a[1], a[2]);
            case "loan": return x.loan(a[0], a[1], a[2]);
            case "offer": return x.offer(a[0], a[1]);
            case "none": return x.none();
            case "type": return x.type(a[0]);
            case "clear": return x.clear();
            case "read": return x.read();
            case "pass": return x.pass(a[0]);
            case "join": return x.join(a[0], a[1]);
            case "sell": return x.sell(a[0], a[1], a[2]);
            case "undo": return x.undo();
            case "whose": return x.whose(a[0], a[1]);
            case "about": return x.about(a[0], a[1]);
            case "foretold": return x.foretold(a[0], a[1]);
            case "purse": return x.purse(a[0], a[1]);
            case "loanThen": return x.loanThen(a[0], a[1], a[2]);
            case "lack": return x.lack(a[0]);
            case "holds": return x.holds(a[0]);
            case "best": return x.best(a[0], a[1]);
            case "joins": return x.joins();
            case "run": return x.run(a[0]);
            case "will": return x.will(a[0], a[1], a[2]);
            case "whom": return x.whom(a[0], a[1]);
            case "price": return x.price(a[0]);
            case "luck": return x.luck(a[0], a[1]);
            case "drawn": return x.drawn(a[0], a[1], a[2], a[3]);
            case "part": return x.part(a[0]);
            case "image": return x.image(a[0]);
            case "from": return x.from(a[0]);
            case "status": return x.status(a[0]);
            case "count": return x.count(a[0]);
            case "digest": return x.digest();
            default: throw new AssertionError(call);
        }
    }

    static int wrong = 0;
    static final TreeMap<String, Integer> seen = new TreeMap<>();

    static void note(String what) {
        seen.merge(what, 1, Integer::sum);
    }

    /** One call on both; digest and STATUS must agree behind it, too. */
    static void both(int seed, BackLoans x, OracleTest o, String call, int... a) {
        long want = o.answer(call, a), got = ask(x, call, a);
        String name = seed + ": " + call + Arrays.toString(a);
        if (got != want) fail(name + " answered " + got + ", due is " + want);
        if (x.digest() != o.digest()) fail(name + ": another digest");
        for (int s = 0; s < 3; s++) if (x.status(s) != o.refused[s]) fail(name + ": another STATUS " + s);
        String kind = want < -4 ? "faults" : want < -1 ? String.valueOf(want) : want == -1 ? "NONE" : want == 0 ? "0" : "more";
        note(call + " " + kind);
    }

    static void fail(String message) {
        wrong++;
        if (wrong <= 20) System.out.println(message);
    }

    final static int[] ODD = {-1, -2, 6, 8, 13, 61, 100, 128, 1000, 10000, 100000, 1000000, Integer.MAX_VALUE, Integer.MIN_VALUE};

    /** Mostly a number from a to b, at times its neighbours, seldom an odd one. */
    static int some(Random r, int a, int b) {
        int d = r.nextInt(60);
        if (d == 0) return a - 1;
        if (d == 1) return b + 1;
        if (d == 2) return ODD[r.nextInt(ODD.length)];
        if (d == 3) return a;
        if (d == 4) return b;
        return b < a ? a : a + r.nextInt(b - a + 1);
    }

    static String townText(Random r) {
        StringBuilder s = new StringBuilder("chest " + some(r, 0, 400) + ";");
        int people = 0;
        for (int i = r.nextInt(14); i > 0; i--) {
            String blank = r.nextInt(4) == 0 ? "  " : " ";
            switch (r.nextInt(8)) {
                case 0: s.append("rate").append(blank).append(some(r, 0, 50)); break;
                case 1: case 2: case 3:
                    s.append("person ").append(some(r, 0, 5)).append(blank).append(some(r, 0, 99)).append(' ').append(some(r, 0, 300));
                    people++;
                    break;
                case 4: case 5: case 6:
                    s.append("loan ").append(some(r, 0, people - 1)).append(blank).append(some(r, 1, 30)).append(' ').append(some(r, 1, 12));
                    break;
                default: s.append("offer ").append(some(r, 1, 30)).append(blank).append(some(r, 1, 12)); break;
            }
            s.append(r.nextInt(5) == 0 ? " ; " : ";");
        }
        if (r.nextInt(3) == 0) {
            int at = r.nextInt(s.length());
            String odd = " ;09aAz,\t\177\0-";
            if (r.nextBoolean()) s.setCharAt(at, odd.charAt(r.nextInt(odd.length())));
            else s.setLength(at);
        }
        return s.length() > 150 ? s.substring(0, 150) : s.toString();
    }

    static void oneRun(int seed) {
        Random r = new Random(seed);
        BackLoans x = new BackLoans();
        OracleTest o = new OracleTest();
        int[] pence = {1 + r.nextInt(99), 1 + r.nextInt(20)}, times = {1 + r.nextInt(12), 2 + r.nextInt(4)};
        boolean wild = r.nextInt(4) == 0;
        if (seed % 10 == 0) becomeRich(seed, r, x, o);
        if (seed % 10 == 1) becomePoor(seed, r, x, o);
        for (int calls = 0; calls < 90; calls++) step(seed, r, x, o, wild, pence, times);
    }

    /** Loans so great that no chest may hold. */
    static void becomeRich(int seed, Random r, BackLoans x, OracleTest o) {
        both(seed, x, o, "rate", 40 + r.nextInt(11));
        for (int p = 0; p < 3; p++) both(seed, x, o, "person", 0, 99, 9999 - r.nextInt(3));
        for (int l = 0; l < 8; l++) both(seed, x, o, "loan", r.nextInt(3), 95 + r.nextInt(5), 12);
        both(seed, x, o, "pass", 9 + r.nextInt(3));
        both(seed, x, o, "holds", 60);
    }

    /** Like loans of people who stop midway: many holes that can be joined. */
    static void becomePoor(int seed, Random r, BackLoans x, OracleTest o) {
        int pence = 1 + r.nextInt(20), times = 3 + r.nextInt(6);
        for (int p = 0; p < 4; p++) both(seed, x, o, "person", 0, 0, r.nextInt(pence * times * 2));
        for (int l = 0; l < 7; l++) both(seed, x, o, "loan", r.nextInt(4), pence, times);
        both(seed, x, o, "pass", 8);
        both(seed, x, o, "joins");
    }

    static void step(int seed, Random r, BackLoans x, OracleTest o, boolean wild, int[] pence, int[] times) {
        int people = o.now.people.size(), loans = o.now.loans.size();
        int p = some(r, 0, people - 1), l = some(r, 0, loans - 1), m = some(r, 0, 60);
        switch (r.nextInt(46)) {
            case 0: both(seed, x, o, "chest", r.nextInt(3) == 0 ? some(r, 0, 99999) : some(r, 0, 500)); break;
            case 1: both(seed, x, o, "rate", some(r, 0, 50)); break;
            case 2: case 3: case 4:
                both(seed, x, o, "person", some(r, 0, 5), some(r, 0, wild ? 99 : 25), some(r, 0, wild ? 9999 : 150)); break;
            case 5: case 6: case 7: case 8: case 9:
                both(seed, x, o, "loan", p, wild ? some(r, 1, 99) : pence[r.nextInt(2)], wild ? some(r, 1, 12) : times[r.nextInt(2)]); break;
            case 10: case 11: both(seed, x, o, "offer", some(r, 1, wild ? 99 : 15), some(r, 1, 12)); break;
            case 12: if (r.nextInt(4) == 0) both(seed, x, o, "none"); break;
            case 13: both(seed, x, o, "type", some(r, 0, 127)); break;
            case 14: if (r.nextInt(6) == 0) typeAndRead(seed, r, x, o); break;
            case 15: case 16: case 17: both(seed, x, o, "pass", r.nextInt(3) == 0 ? some(r, 1, 12) : 1 + r.nextInt(3)); break;
            case 18: case 19: case 20: {
                int set = o.joins();
                boolean may = set > 0 && r.nextInt(2) == 0;
                int a = may ? Integer.numberOfTrailingZeros(set) : l, b = may ? 31 - Integer.numberOfLeadingZeros(set) : some(r, 0, loans - 1);
                both(seed, x, o, "join", a, b);
                break;
            }
            case 21: case 22: both(seed, x, o, "sell", l, p, some(r, 0, r.nextInt(3) == 0 ? 9999 : 30)); break;
            case 23: case 24: both(seed, x, o, "undo"); break;
            case 25: both(seed, x, o, "whose", p, some(r, 0, 2)); break;
            case 26: both(seed, x, o, "about", l, some(r, 0, 5)); break;
            case 27: case 28: both(seed, x, o, "foretold", m, some(r, 0, 4)); break;
            case 29: both(seed, x, o, "purse", m, p); break;
            case 30: both(seed, x, o, "loanThen", m, l, some(r, 0, 1)); break;
            case 31: both(seed, x, o, "lack", m); break;
            case 32: if (r.nextInt(4) == 0) both(seed, x, o, "holds", m); break;
            case 33: both(seed, x, o, "best", p, some(r, 0, 1)); break;
            case 34: both(seed, x, o, "joins"); break;
            case 35: both(seed, x, o, "run", some(r, 0, 3)); break;
            case 36: case 37: {
                int heirs = some(r, 0, (1 << people) - 1);
                if (r.nextInt(3) != 0 && people > 0) heirs = (1 << r.nextInt(people) | 1 << r.nextInt(people) | 1 << r.nextInt(people)) & ~(1 << Math.max(0, Math.min(5, p)));
                both(seed, x, o, "will", p, heirs, some(r, -1, 3));
                break;
            }
            case 38: case 39: {
                int k = some(r, 0, r.nextBoolean() ? 59 : 4);
                int like = loans > 0 ? o.now.whole(o.now.loans.get(r.nextInt(loans))) : 7;
                both(seed, x, o, "whom", k, r.nextInt(4) == 0 ? some(r, -5, 100000) : like);
                break;
            }
            case 40: both(seed, x, o, "price", l); break;
            case 41: both(seed, x, o, "luck", l, some(r, 0, 10)); break;
            case 42: both(seed, x, o, "drawn", some(r, 0, 999999), some(r, 0, 100), m, some(r, 0, 1)); break;
            case 43: both(seed, x, o, "part", some(r, 0, 1)); break;
            case 44: both(seed, x, o, r.nextBoolean() ? "image" : "from", some(r, 0, 1)); break;
            default: both(seed, x, o, r.nextBoolean() ? "status" : "count", some(r, 0, r.nextBoolean() ? 2 : 8)); break;
        }
    }

    static void typeAndRead(int seed, Random r, BackLoans x, OracleTest o) {
        both(seed, x, o, "clear");
        String s = r.nextInt(12) == 0 ? " ".repeat(r.nextInt(3)) : townText(r);
        for (int i = 0; i < s.length(); i++) both(seed, x, o, "type", s.charAt(i));
        both(seed, x, o, "read");
    }

    public static void main(String[] args) {
        int runs = args.length > 1 ? Integer.parseInt(args[1]) : 2500;
        for (int seed = 0; seed < runs; seed++) oneRun(seed);
        // A run that never meets these would prove nothing of them.
        String[] due = {"read more", "read faults", "join more", "join -3", "sell -3", "sell more", "undo 1", "lack NONE",
            "lack more", "holds NONE", "holds more", "best more", "joins NONE", "joins more", "will more", "will faults",
            "will NONE", "whom more", "luck more", "luck -3", "drawn more", "from -3", "from more", "loan -4",
            "person -4", "offer -4", "pass more", "price more", "status NONE"};
        for (String d : due) {
            String key = d.replace("undo 1", "undo more");
            if (!seen.containsKey(key)) fail("no run met: " + key);
        }
        if (args.length > 2) System.out.println(seen);
        System.out.println(wrong == 0 ? runs + " drawn runs: all answers are alike" : wrong + " answers are not alike");
        if (wrong != 0) System.exit(1);
    }
}
