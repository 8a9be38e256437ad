import java.util.function.Supplier;

/**
 * Every number of every call just within its bounds and just beyond them, and every refusal:
 * its answer, which one comes first, what it counts as, and that nothing but STATUS is changed.
 */
public final class BoundsTest extends Checks {
    static final int LEAST = Integer.MIN_VALUE, MOST = Integer.MAX_VALUE;

    interface Numbers {
        long on(BackLoans b, int[] a);
    }

    /** A call, numbers that it takes, for each of them the least and the most; asks: it changes nothing. */
    record Row(String name, boolean asks, int badAnswer, Numbers call, int[] usual, int[]... bounds) {
        int[] with(int at, int value) {
            int[] a = usual.clone();
            a[at] = value;
            return a;
        }

        String told(int[] a) {
            return name + java.util.Arrays.toString(a);
        }
    }

    static Row does(String name, Numbers call, int[] usual, int[]... bounds) {
        return new Row(name, false, BAD, call, usual, bounds);
    }

    static Row asks(String name, Numbers call, int[] usual, int[]... bounds) {
        return new Row(name, true, BAD, call, usual, bounds);
    }

    static int[] of(int... numbers) {
        return numbers;
    }

    /** The bounds in a town of so many people and loans; the usual numbers must be as told in it. */
    static Row[] rows(int people, int loans) {
        int[] person = {0, people - 1}, loan = {0, loans - 1}, ahead = {0, 60}, pence = {1, 99}, months = {1, 12};
        return new Row[] {
            does("chest", (b, a) -> b.chest(a[0]), of(5), of(0, 99999)),
            does("rate", (b, a) -> b.rate(a[0]), of(5), of(0, 50)),
            does("person", (b, a) -> b.person(a[0], a[1], a[2]), of(1, 1, 1), of(0, 5), of(0, 99), of(0, 9999)),
            does("loan", (b, a) -> b.loan(a[0], a[1], a[2]), of(1, 2, 3), person, pence, months),
            does("offer", (b, a) -> b.offer(a[0], a[1]), of(2, 3), pence, months),
            does("type", (b, a) -> b.type(a[0]), of(65), of(0, 127)),
            does("pass", (b, a) -> b.pass(a[0]), of(2), of(1, 12)),
            does("join", (b, a) -> b.join(a[0], a[1]), of(3, 4), loan, loan),
            does("sell", (b, a) -> b.sell(a[0], a[1], a[2]), of(loans - 1, 2, 1), loan, person, of(0, 9999)),
            asks("whose", (b, a) -> b.whose(a[0], a[1]), of(1, 1), person, of(0, 2)),
            asks("about", (b, a) -> b.about(a[0], a[1]), of(1, 1), loan, of(0, 5)),
            asks("foretold", (b, a) -> b.foretold(a[0], a[1]), of(1, 1), ahead, of(0, 4)),
            asks("purse", (b, a) -> b.purse(a[0], a[1]), of(1, 1), ahead, person),
            asks("loanThen", (b, a) -> b.loanThen(a[0], a[1], a[2]), of(1, 1, 1), ahead, loan, of(0, 1)),
            asks("lack", (b, a) -> b.lack(a[0]), of(1), ahead),
            asks("holds", (b, a) -> b.holds(a[0]), of(1), ahead),
            asks("best", (b, a) -> b.best(a[0], a[1]), of(1, 1), person, of(0, 1)),
            asks("run", (b, a) -> b.run(a[0]), of(1), of(0, 3)),
            new Row("will", true, -10, (b, a) -> b.will(a[0], a[1], a[2]), of(1, 1, 0), person, of(0, 7), of(-1, MOST)),
            asks("whom", (b, a) -> b.whom(a[0], a[1]), of(1, 1), of(0, 59), of(LEAST, MOST)),
            asks("price", (b, a) -> b.price(a[0]), of(1), loan),
            does("luck", (b, a) -> b.luck(a[0], a[1]), of(6, 5), loan, of(0, 10)),
            asks("drawn", (b, a) -> b.drawn(a[0], a[1], a[2], a[3]), of(1, 1, 1, 1), of(0, 999999), of(0, 100), ahead, of(0, 1)),
            asks("part", (b, a) -> b.part(a[0]), of(1), of(0, 1)),
            does("image", (b, a) -> b.image(a[0]), of(1), of(0, 1)),
            does("from", (b, a) -> b.from(a[0]), of(1), of(0, 1)),
            new Row("status", true, -1, (b, a) -> b.status(a[0]), of(1), of(0, 2)),
            asks("count", (b, a) -> b.count(a[0]), of(1), of(0, 8)),
        };
    }

    private static Row heirsOfAll(Row row) {
        return new Row(row.name, row.asks, row.badAnswer, row.call, row.usual, row.bounds[0], of(0, 56), row.bounds[2]);
    }

    static void everyNumber(Supplier<BackLoans> town, int people, int loans) {
        for (Row row : rows(people, loans)) {
            // In a town of six three bits make 56 at most, and 57 has four of them.
            Row r = row.name.equals("will") && people == 6 ? heirsOfAll(row) : row;
            for (int at = 0; at < r.usual.length; at++) {
                int least = r.bounds[at][0], most = r.bounds[at][1];
                within(town, r, r.with(at, least));
                within(town, r, r.with(at, most));
                if (least > LEAST) {
                    beyond(town, r, r.with(at, least - 1));
                    beyond(town, r, r.with(at, LEAST));
                }
                if (most < MOST) {
                    beyond(town, r, r.with(at, most + 1));
                    beyond(town, r, r.with(at, MOST));
                }
            }
        }
    }

    static void within(Supplier<BackLoans> town, Row row, int[] a) {
        BackLoans b = town.get();
        int bads = b.status(0);
        long got = row.call.on(b, a);
        if (got == row.badAnswer) due(row.told(a) + " is within: not BAD", got, 0);
        due(row.told(a) + ": status 0", b.status(0), bads);
        if (row.asks) likeNew(row.told(a), b, town.get());
    }

    static void beyond(Supplier<BackLoans> town, Row row, int[] a) {
        changesNothing(row.told(a), town, b -> row.call.on(b, a), row.badAnswer, AS_BAD);
    }

    /** Where nobody is, and no loan, there is no number for one. */
    static void nobodyThere() {
        for (int n : of(LEAST, -1, 0, 1, 5, 7, MOST)) {
            none("loan", b -> b.loan(n, 1, 1));
            none("join", b -> b.join(n, 1));
            none("sell", b -> b.sell(n, 0, 0));
            none("whose", b -> b.whose(n, 0));
            none("about", b -> b.about(n, 0));
            none("purse", b -> b.purse(0, n));
            none("loanThen", b -> b.loanThen(0, n, 0));
            none("best", b -> b.best(n, 0));
            none("price", b -> b.price(n));
            none("luck", b -> b.luck(n, 0));
            changesNothing("will of " + n + " where nobody is", Towns::empty, b -> b.will(n, 0, NONE), -10, AS_BAD);
        }
    }

    static void none(String call, Call asked) {
        changesNothing(call + " where nobody is", Towns::empty, asked, BAD, AS_BAD);
    }

    static void emptyTownAnswers() {
        String name = "in an empty town: ";
        for (int m : of(0, 60)) {
            for (int what = 0; what < 5; what++) told(name + "foretold", b -> 0, m, what);
            changesNothing(name + "lack", Towns::empty, b -> b.lack(m), NONE, AS_NONE);
            changesNothing(name + "holds", Towns::empty, b -> b.holds(m), 0, AS_NONE);
            changesNothing(name + "drawn", Towns::empty, b -> b.drawn(0, 100, m, 1), 0, AS_NONE);
        }
        for (int what = 0; what < 4; what++) {
            int w = what;
            changesNothing(name + "run " + w, Towns::empty, b -> b.run(w), 0, AS_NONE);
        }
        changesNothing(name + "joins", Towns::empty, b -> b.joins(), NONE, AS_NONE);
        changesNothing(name + "whom", Towns::empty, b -> b.whom(0, 0), 0, AS_NONE);
        changesNothing(name + "none", Towns::empty, b -> b.none(), 0, AS_NONE);
        changesNothing(name + "clear", Towns::empty, b -> b.clear(), 0, AS_NONE);
        changesNothing(name + "read", Towns::empty, b -> b.read(), -10, AS_NONE);
        changesNothing(name + "above", Towns::empty, b -> b.part(0), 0, AS_NONE);
        changesNothing(name + "below", Towns::empty, b -> b.part(1), 1, AS_NONE);
    }

    private static void told(String name, Call want, int m, int what) {
        changesNothing(name + " " + m + " " + what, Towns::empty, b -> b.foretold(m, what), want.on(null), AS_NONE);
    }

    /** FULL: what is beyond 6 people, 8 loans, 8 offers, 150 bytes; BAD comes ahead of it. */
    static void whatIsFull() {
        isFull("a 7th person", b -> b.person(0, 0, 0));
        isFull("a 9th loan", b -> b.loan(0, 1, 1));
        isFull("a 9th offer", b -> b.offer(1, 1));
        isFull("a 151st byte", b -> b.type(32));
        badAheadOfFull("kind", b -> b.person(6, 0, 0));
        badAheadOfFull("means", b -> b.person(0, 100, 0));
        badAheadOfFull("purse", b -> b.person(0, 0, 10000));
        badAheadOfFull("person", b -> b.loan(6, 1, 1));
        badAheadOfFull("pence", b -> b.loan(0, 0, 1));
        badAheadOfFull("months", b -> b.loan(0, 1, 13));
        badAheadOfFull("an offer's pence", b -> b.offer(100, 1));
        badAheadOfFull("an offer's months", b -> b.offer(1, 0));
        badAheadOfFull("byte -1", b -> b.type(-1));
        badAheadOfFull("byte 128", b -> b.type(128));
        BackLoans b = Towns.full();
        due("full: none", b.none(), 8);
        due("none makes room", b.offer(1, 1), 0);
        due("full: clear", b.clear(), 150);
        due("clear makes room", b.type(65), 1);
        BackLoans c = Towns.full();
        due("an image of less", c.from(0), 1);
        due("it makes room for people", c.person(0, 1, 1), 0);
        due("it makes room for loans", c.loan(0, 1, 1), 0);
        due("it makes room for offers", c.offer(1, 1), 0);
        due("but not for bytes", c.type(65), FULL);
    }

    static void isFull(String name, Call call) {
        changesNothing(name, Towns::full, call, FULL, AS_FULL);
    }

    static void badAheadOfFull(String name, Call call) {
        changesNothing("BAD ahead of FULL: " + name, Towns::full, call, BAD, AS_BAD);
    }

    /** One less than full still comes, with the last number. */
    static void theLastThatComes() {
        fresh();
        for (int p = 0; p < 6; p++) due("person", x.person(5 - p, 0, 0), p);
        for (int l = 0; l < 8; l++) due("loan", x.loan(5, 1, 1), l);
        for (int o = 0; o < 8; o++) due("offer", x.offer(1, 1), o);
        for (int c = 1; c <= 150; c++) due("type", x.type(97), c);
        due("the last person", x.whose(5, 0), 0);
        due("the last loan", x.about(7, 0), 5);
    }

    /** NO of join: either of the two is no HOLE, though they are alike; and not alike, though both are HOLES. BAD comes ahead. */
    static void joinIsNo() {
        for (int other : of(0, 1, 4, 5)) {
            isNo("join of a hole and " + other, Towns::alike, b -> b.join(2, other));
            isNo("join of " + other + " and a hole", Towns::alike, b -> b.join(other, 2));
            changesNothing("BAD ahead of NO: join alike " + other, Towns::alike, b -> b.join(other, other), BAD, AS_BAD);
            changesNothing("BAD ahead of NO: join " + other + " with none", Towns::alike, b -> b.join(other, 6), BAD, AS_BAD);
        }
        isNo("join of two that are no holes", Towns::alike, b -> b.join(0, 5));
        changesNothing("join of a hole with itself", Towns::alike, b -> b.join(2, 2), BAD, AS_BAD);
        due("join of two holes", Towns.alike().join(2, 3), OWED);
        due("join of two holes", Towns.alike().join(3, 2), OWED);
        isNo("join of unlike holes", Towns::mixed, b -> b.join(0, 3));
        isNo("join of unlike holes", Towns::mixed, b -> b.join(4, 0));
        due("join of like holes", Towns.mixed().join(3, 4), HOLE);
    }

    /** NO of sell: it neither RUNS nor is a HOLE, or the PURSE has less. BAD comes ahead. */
    static void sellIsNo() {
        for (int loan : of(0, 1, 4)) {
            isNo("sell what is no more: " + loan, Towns::alike, b -> b.sell(loan, 3, 0));
            int owner = loan == 1 ? 1 : 0;
            changesNothing("BAD ahead of NO: to himself " + loan, Towns::alike, b -> b.sell(loan, owner, 0), BAD, AS_BAD);
            changesNothing("BAD ahead of NO: price " + loan, Towns::alike, b -> b.sell(loan, 3, 10000), BAD, AS_BAD);
            changesNothing("BAD ahead of NO: to nobody " + loan, Towns::alike, b -> b.sell(loan, 4, 0), BAD, AS_BAD);
        }
        due("sell what runs", Towns.alike().sell(5, 3, 0), 0);
        due("sell a hole", Towns.alike().sell(2, 3, 0), 2);
        isNo("an empty purse has less than 1", Towns::alike, b -> b.sell(5, 3, 1));
        changesNothing("to himself what runs", Towns::alike, b -> b.sell(5, 0, 0), BAD, AS_BAD);
        changesNothing("to himself a hole", Towns::alike, b -> b.sell(3, 3, 0), BAD, AS_BAD);
        changesNothing("BAD ahead of NO: he has less, too", Towns::alike, b -> b.sell(3, 3, 1), BAD, AS_BAD);
        int purse = Towns.mixed().whose(1, 2);
        due("a price of all that is there", Towns.mixed().sell(3, 1, purse), 2);
        isNo("a price of one more", Towns::mixed, b -> b.sell(3, 1, purse + 1));
    }

    static void isNo(String name, Supplier<BackLoans> town, Call call) {
        changesNothing(name, town, call, NO, AS_NO);
    }

    /** NO of luck: it does not RUN; BAD comes ahead. */
    static void luckIsNo() {
        for (int loan = 0; loan < 5; loan++) {
            int l = loan;
            isNo("luck of what does not run: " + l, Towns::alike, b -> b.luck(l, 5));
            changesNothing("BAD ahead of NO: luck " + l, Towns::alike, b -> b.luck(l, 11), BAD, AS_BAD);
        }
        due("luck of what runs", Towns.alike().luck(5, 5), 1);
    }

    /** NO of undo: none may be. NO of from: none was kept. */
    static void undoAndFromAreNo() {
        isNo("undo in a new town", Towns::empty, b -> b.undo());
        isNo("undo when all is undone", Towns::undone, b -> b.undo());
        isNo("undo of a town that was read", BoundsTest::readTown, b -> b.undo());
        isNo("from 0 in a new town", Towns::empty, b -> b.from(0));
        isNo("from 1 in a new town", Towns::empty, b -> b.from(1));
        isNo("from 1 where 0 is kept", Towns::withFraction, b -> b.from(1));
        isNo("from 0 where 1 is kept", BoundsTest::onlySecondImage, b -> b.from(0));
    }

    static BackLoans readTown() {
        BackLoans b = Towns.mixed();
        b.read();
        return b;
    }

    /** One person without loans; image 1 is kept, 0 not. */
    static BackLoans onlySecondImage() {
        BackLoans b = new BackLoans();
        b.person(0, 1, 1);
        b.image(1);
        return b;
    }

    /** will: -10 counts as BAD; NONE and -5 count as nothing, and change nothing. */
    static void willRefuses() {
        will("nobody is told", 0, 0, NONE, NONE, AS_NONE);
        will("nobody is told, the first", 0, 0, 0, NONE, AS_NONE);
        will("he himself alone", 0, 1, NONE, NONE, AS_NONE);
        will("he himself and another", 0, 3, 0, NONE, AS_NONE);
        will("he himself and two", 3, 8 | 4 | 1, 0, NONE, AS_NONE);
        will("four", 0, 2 | 4 | 8 | 16, NONE, -10, AS_BAD);
        will("four, he himself among them", 0, 15, NONE, -10, AS_BAD);
        will("five", 0, 62, 0, -10, AS_BAD);
        will("all six", 0, 63, 0, -10, AS_BAD);
        will("a seventh", 0, 64, NONE, -10, AS_BAD);
        will("a seventh and he himself", 0, 65, NONE, -10, AS_BAD);
        will("the highest bit", 0, LEAST, NONE, -10, AS_BAD);
        will("BAD ahead of NONE", 0, 0, -2, -10, AS_BAD);
        will("BAD ahead of NONE", 0, 1, -2, -10, AS_BAD);
        will("BAD ahead of NONE", 6, 0, NONE, -10, AS_BAD);
        // In this town 0 has loans 0 and 6, of which 0 is had.
        will("the first of his", 0, 2, 0, 1, AS_NONE);
        will("one more than he has", 0, 2, 1, -5, AS_NONE);
        will("many more than he has", 0, 2, MOST, -5, AS_NONE);
        // He has nothing to leave: nobody is told, all the same.
        for (int i : of(NONE, 0, 7)) {
            changesNothing("will: nobody is told, nothing is left", BoundsTest::onlySecondImage, b -> b.will(0, 0, i), NONE, AS_NONE);
            changesNothing("will: he himself is, nothing is left", BoundsTest::onlySecondImage, b -> b.will(0, 1, i), NONE, AS_NONE);
        }
        BackLoans b = Towns.mixed();
        due("a bit of one who is not there", b.will(0, 8, NONE), -10);
        due("it counts", b.status(0), 2);
    }

    static void will(String name, int person, int heirs, int i, int answer, int kind) {
        changesNothing("will: " + name, Towns::full, b -> b.will(person, heirs, i), answer, kind);
    }

    /** Of the calls that change something, each leaves as it is what the document does not name. */
    static void whatStays() {
        BackLoans b = Towns.mixed();
        int[] status = {b.status(0), b.status(1), b.status(2)};
        due("luck", b.luck(6, 10), 1);
        due("luck changes the fraction", b.part(0) * 1000 + b.part(1), 1001);
        due("and back", lucky(b), 9 * 1000 + 100);
        b.read();
        due("read leaves the fraction", b.part(0) * 1000 + b.part(1), 9 * 1000 + 100);
        due("read leaves the text", b.count(8), Towns.A_TOWN.length());
        b.from(1);
        due("from leaves the fraction", b.part(0) * 1000 + b.part(1), 9 * 1000 + 100);
        due("from leaves the text", b.count(8), Towns.A_TOWN.length());
        b.clear();
        due("clear leaves the month", b.count(2), 5);
        for (int s = 0; s < 3; s++) due("nothing was refused: " + s, b.status(s), status[s]);
        for (int i = 0; i < 2; i++) {
            BackLoans c = Towns.mixed();
            long other = imageDigest(1 - i);
            c.image(i);
            c.from(1 - i);
            due("image " + i + " leaves the other one", c.digest(), other);
        }
    }

    private static long imageDigest(int i) {
        BackLoans b = Towns.mixed();
        b.from(i);
        return b.digest();
    }

    private static long lucky(BackLoans b) {
        b.image(0);
        b.read();
        b.chest(0);
        b.person(0, 10, 0);
        b.loan(2, 10, 2);
        b.luck(1, 3);
        b.from(0);
        return b.part(0) * 1000 + b.part(1);
    }

    /** STATUS: each refusal counts once, in its own; another what of status counts as BAD; answers that are no refusal do not. */
    static void statusCounts() {
        BackLoans b = Towns.empty();
        for (int n = 1; n <= 20; n++) {
            b.chest(-n);
            due("BAD", b.status(0), n);
        }
        for (int n = 1; n <= 20; n++) {
            b.undo();
            due("NO", b.status(1), n);
        }
        for (int i = 0; i < 6; i++) b.person(0, 0, 0);
        for (int n = 1; n <= 20; n++) {
            b.person(0, 0, 0);
            due("FULL", b.status(2), n);
        }
        for (int what : of(3, -1, LEAST, MOST)) due("status " + what, b.status(what), -1);
        b.part(2);
        b.count(9);
        b.will(9, 0, 0);
        due("BAD", b.status(0), 27);
        b.will(0, 0, 0);
        b.will(0, 2, 0);
        b.read();
        b.joins();
        b.lack(5);
        b.whom(0, -2);
        due("no refusals", b.status(0) * 10000 + b.status(1) * 100 + b.status(2), 272020);
    }

    /** The town that each test starts from is as its comment says. */
    static void townsAreAsTold() {
        int[] mixed = {HOLE, GONE, HAD, HOLE, HOLE, OWED, RUNS}, given = {4, 1, 1, 0, 0, 2, 2}, owners = {0, 2, 1, 2, 0, 1, 1};
        BackLoans m = Towns.mixed();
        for (int l = 0; l < 7; l++) {
            due("mixed: state " + l, m.about(l, 3), mixed[l]);
            due("mixed: given " + l, m.about(l, 4), given[l]);
            due("mixed: owner " + l, m.about(l, 0), owners[l]);
        }
        int[] counts = {50, 50, 6, 3, 7, 2, 1, 7, Towns.A_TOWN.length()};
        for (int what = 0; what < 9; what++) due("mixed: count " + what, m.count(what), counts[what]);
        due("mixed: its text is a town", m.read(), 6);
        int[] alike = {HAD, GONE, HOLE, HOLE, OWED, RUNS};
        BackLoans a = Towns.alike();
        for (int l = 0; l < 6; l++) due("alike: state " + l, a.about(l, 3), alike[l]);
        BackLoans f = Towns.full();
        due("full", f.count(3) * 1000 + f.count(4) * 100 + f.count(5) * 10 + f.count(7), 6888);
        due("full: its text is a town", f.read(), 7);
    }

    public static void main(String[] args) {
        townsAreAsTold();
        everyNumber(Towns::mixed, 3, 7);
        everyNumber(Towns::full, 6, 8);
        nobodyThere();
        emptyTownAnswers();
        whatIsFull();
        theLastThatComes();
        joinIsNo();
        sellIsNo();
        luckIsNo();
        undoAndFromAreNo();
        willRefuses();
        whatStays();
        statusCounts();
        end("bounds and refusals: all answers are as due");
    }
}
