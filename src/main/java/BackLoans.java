/**
 * The bank of a town in which a loan is paid off before it is had.
 *
 * <p>All rows are made in the constructor and used again: no call makes an object.
 */
public final class BackLoans {
    public static final int NONE = -1, BAD = -2, NO = -3, FULL = -4;

    private static final int MOST_PEOPLE = 6, MOST_LOANS = 8, MOST_OFFERS = 8;
    private static final int MOST_TEXT = 150, MOST_UNDONE = 8, MOST_HEIRS = 3, IMAGES = 2;
    private static final int CHEST_MOST = 99999, PURSE_MOST = 9999, RATE_MOST = 50, MEANS_MOST = 99;
    private static final int SPENDS_ABOVE = 50;
    private static final int PENCE_MOST = 99, LONG_MOST = 12, AHEAD_MOST = 60, PASS_MOST = 12;
    private static final int HOLDS_MOST = 9999, SEED_MOST = 999999, BEST_MONTHS = 12;
    private static final int WILL_BAD = -10, WILL_TOO_FEW = -5, READ_FAULT = -10;

    private static final int STEADY = 0, FIELD_HAND = 1, SPENDER = 2, GLEANER = 3, HEIR = 4, MISER = 5;
    private static final int RUNS = 0, HAD = 1, HOLE = 2, OWED = 3, GONE = 4;

    private final Town now = new Town();
    private final Past past = new Past();
    private final Image firstImage = new Image();
    private final Image secondImage = new Image();
    private final Text text = new Text();
    private final Foresight foresight = new Foresight();
    private final Will testament = new Will();
    private final Chance chance = new Chance();
    private int refusedBad;
    private int refusedNo;
    private int refusedFull;

    public BackLoans() {
    }

    // ---- a town

    public int chest(int n) {
        if (!within(n, 0, CHEST_MOST)) {
            return bad();
        }
        int was = now.chest;
        now.chest = n;
        return was;
    }

    public int rate(int r) {
        if (!within(r, 0, RATE_MOST)) {
            return bad();
        }
        int was = now.rate;
        now.rate = r;
        return was;
    }

    public int person(int kind, int means, int purse) {
        if (!within(kind, STEADY, MISER) || !within(means, 0, MEANS_MOST) || !within(purse, 0, PURSE_MOST)) {
            return bad();
        }
        if (now.people >= MOST_PEOPLE) {
            return full();
        }
        return now.addPerson(kind, means, purse);
    }

    public int loan(int person, int pence, int months) {
        if (!now.hasPerson(person) || !within(pence, 1, PENCE_MOST) || !within(months, 1, LONG_MOST)) {
            return bad();
        }
        if (now.loans >= MOST_LOANS) {
            return full();
        }
        return now.addLoan(person, pence, months);
    }

    public int offer(int pence, int months) {
        if (!within(pence, 1, PENCE_MOST) || !within(months, 1, LONG_MOST)) {
            return bad();
        }
        if (now.offers >= MOST_OFFERS) {
            return full();
        }
        return now.addOffer(pence, months);
    }

    public int none() {
        int were = now.offers;
        now.offers = 0;
        return were;
    }

    public int type(int c) {
        if (!within(c, 0, 127)) {
            return bad();
        }
        if (text.length >= MOST_TEXT) {
            return full();
        }
        text.add((byte) c);
        return text.length;
    }

    public int clear() {
        int had = text.length;
        text.length = 0;
        return had;
    }

    public int read() {
        int items = text.readTown(foresight.trial);
        if (items < 0) {
            return items;
        }
        now.copyFrom(foresight.trial);
        past.forget();
        return items;
    }

    // ---- months

    public int pass(int n) {
        if (!within(n, 1, PASS_MOST)) {
            return bad();
        }
        int before = now.howManyAre(HAD);
        for (int i = 0; i < n; i++) {
            past.keep(now);
            now.liveMonth(0);
        }
        return now.howManyAre(HAD) - before;
    }

    public int join(int a, int b) {
        if (!now.hasLoan(a) || !now.hasLoan(b) || a == b) {
            return bad();
        }
        if (!now.canBeJoined(a, b)) {
            return no();
        }
        past.keep(now);
        now.putTogether(a, b);
        return now.state[a];
    }

    public int sell(int loan, int to, int price) {
        if (!now.hasLoan(loan) || !now.hasPerson(to) || !within(price, 0, PURSE_MOST) || now.owner[loan] == to) {
            return bad();
        }
        boolean sellable = now.state[loan] == RUNS || now.state[loan] == HOLE;
        if (!sellable || now.purse[to] < price) {
            return no();
        }
        past.keep(now);
        int was = now.owner[loan];
        now.purse[to] -= price;
        now.purse[was] = Math.min(PURSE_MOST, now.purse[was] + price);
        now.owner[loan] = to;
        return was;
    }

    public int undo() {
        if (past.kept <= 0) {
            return no();
        }
        past.goBack(now);
        return 1;
    }

    public int whose(int person, int what) {
        if (!now.hasPerson(person)) {
            return bad();
        }
        switch (what) {
            case 0: return now.kind[person];
            case 1: return now.means[person];
            case 2: return now.purse[person];
            default: return bad();
        }
    }

    public int about(int loan, int what) {
        if (!now.hasLoan(loan)) {
            return bad();
        }
        switch (what) {
            case 0: return now.owner[loan];
            case 1: return now.pence[loan];
            case 2: return now.times[loan];
            case 3: return now.state[loan];
            case 4: return now.given[loan];
            case 5: return now.wholeOf(loan);
            default: return bad();
        }
    }

    // ---- what is foretold

    public int foretold(int m, int what) {
        if (!within(m, 0, AHEAD_MOST) || !within(what, 0, 4)) {
            return bad();
        }
        Town then = foresight.lookAhead(now, m);
        switch (what) {
            case 0: return then.chest;
            case 1: return then.lacks;
            case 2: return then.howManyAre(HAD);
            case 3: return then.howManyAre(HOLE);
            default: return then.howManyAre(OWED);
        }
    }

    public int purse(int m, int person) {
        if (!within(m, 0, AHEAD_MOST) || !now.hasPerson(person)) {
            return bad();
        }
        return foresight.lookAhead(now, m).purse[person];
    }

    public int loanThen(int m, int loan, int what) {
        if (!within(m, 0, AHEAD_MOST) || !now.hasLoan(loan) || !within(what, 0, 1)) {
            return bad();
        }
        Town then = foresight.lookAhead(now, m);
        return what == 0 ? then.state[loan] : then.given[loan];
    }

    public int lack(int m) {
        if (!within(m, 0, AHEAD_MOST)) {
            return bad();
        }
        return foresight.firstLack(now, now.chest, m);
    }

    public int holds(int m) {
        if (!within(m, 0, AHEAD_MOST)) {
            return bad();
        }
        return foresight.leastChest(now, m);
    }

    public int best(int person, int what) {
        if (!now.hasPerson(person) || !within(what, 0, 1)) {
            return bad();
        }
        int set = foresight.bestOffers(now, person);
        return what == 0 ? now.gainOfOffers(set) : set;
    }

    public int joins() {
        int fewest = MOST_LOANS + 1;
        int found = NONE;
        for (int set = 1; set < 1 << now.loans; set++) {
            int size = Integer.bitCount(set);
            if (size < fewest && now.holesMakeWhole(set)) {
                fewest = size;
                found = set;
            }
        }
        return found;
    }

    // ---- runs, wills

    public int run(int what) {
        switch (what) {
            case 0: return now.paidInOrder();
            case 1: return now.leftInOrder();
            case 2: return now.paidInBestOrder();
            case 3: return Math.max(0, now.wantedByAll() - now.chest);
            default: return bad();
        }
    }

    public int will(int person, int heirs, int i) {
        boolean asTold = now.hasPerson(person) && within(heirs, 0, (1 << now.people) - 1)
                && Integer.bitCount(heirs) <= MOST_HEIRS && i >= NONE;
        if (!asTold) {
            bad();
            return WILL_BAD;
        }
        if (heirs == 0 || hasBit(heirs, person)) {
            return NONE;
        }
        testament.share(now, person, heirs);
        if (i == NONE) {
            return testament.least;
        }
        return i < testament.parts ? testament.heirOf(i) : WILL_TOO_FEW;
    }

    public int whom(int k, int x) {
        if (!within(k, 0, AHEAD_MOST - 1)) {
            return bad();
        }
        return foresight.hadInMonth(now, k, x);
    }

    public int price(int loan) {
        if (!now.hasLoan(loan) || now.times[loan] < 1) {
            return bad();
        }
        return now.givenPence(loan) * now.given[loan] / now.times[loan];
    }

    public int luck(int loan, int c) {
        if (!now.hasLoan(loan) || !within(c, 0, 10)) {
            return bad();
        }
        if (now.state[loan] != RUNS) {
            return no();
        }
        chance.giveToTheEnd(now, loan, c);
        return 1;
    }

    public int drawn(int seed, int w, int m, int what) {
        boolean asTold = within(seed, 0, SEED_MOST) && within(w, 0, 100)
                && within(m, 0, AHEAD_MOST) && within(what, 0, 1);
        if (!asTold) {
            return bad();
        }
        Town then = foresight.drawMonths(now, seed, w, m);
        return then.howManyAre(what == 0 ? HAD : HOLE);
    }

    // ---- what there is

    public long part(int what) {
        switch (what) {
            case 0: return chance.above;
            case 1: return chance.below;
            default: return bad();
        }
    }

    public int image(int i) {
        if (!within(i, 0, IMAGES - 1)) {
            return bad();
        }
        Image image = imageAt(i);
        image.town.copyFrom(now);
        image.past.copyFrom(past);
        image.kept = true;
        return 1;
    }

    public int from(int i) {
        if (!within(i, 0, IMAGES - 1)) {
            return bad();
        }
        Image image = imageAt(i);
        if (!image.kept) {
            return no();
        }
        now.copyFrom(image.town);
        past.copyFrom(image.past);
        return 1;
    }

    public int status(int what) {
        switch (what) {
            case 0: return refusedBad;
            case 1: return refusedNo;
            case 2: return refusedFull;
            default:
                bad();
                return NONE;
        }
    }

    public int count(int what) {
        return within(what, 0, 8) ? countOf(what) : bad();
    }

    public long digest() {
        long h = 839;
        for (int what = 0; what <= 8; what++) {
            h = 31 * h + countOf(what);
        }
        h = now.mixInto(h);
        h = 31 * h + chance.above;
        return 31 * h + chance.below;
    }

    private Image imageAt(int i) {
        return i == 0 ? firstImage : secondImage;
    }

    private int countOf(int what) {
        switch (what) {
            case 0: return now.chest;
            case 1: return now.rate;
            case 2: return now.month;
            case 3: return now.people;
            case 4: return now.loans;
            case 5: return now.offers;
            case 6: return now.lacks;
            case 7: return past.kept;
            default: return text.length;
        }
    }

    private int bad() {
        refusedBad++;
        return BAD;
    }

    private int no() {
        refusedNo++;
        return NO;
    }

    private int full() {
        refusedFull++;
        return FULL;
    }

    private static boolean within(int n, int least, int most) {
        return n >= least && n <= most;
    }

    private static boolean hasBit(int bits, int i) {
        return (bits >> i & 1) == 1;
    }

    /** All that an image keeps, but for what may be undone. */
    private static final class Town {
        int chest;
        int rate;
        int month;
        int lacks;
        int people;
        int loans;
        int offers;
        final int[] kind = new int[MOST_PEOPLE];
        final int[] means = new int[MOST_PEOPLE];
        final int[] purse = new int[MOST_PEOPLE];
        final int[] owner = new int[MOST_LOANS];
        final int[] pence = new int[MOST_LOANS];
        final int[] times = new int[MOST_LOANS];
        final int[] state = new int[MOST_LOANS];
        final int[] given = new int[MOST_LOANS];
        final int[] offerPence = new int[MOST_OFFERS];
        final int[] offerTimes = new int[MOST_OFFERS];

        void makeEmpty() {
            chest = 0;
            rate = 0;
            month = 0;
            lacks = 0;
            people = 0;
            loans = 0;
            offers = 0;
        }

        void copyFrom(Town other) {
            chest = other.chest;
            rate = other.rate;
            month = other.month;
            lacks = other.lacks;
            people = other.people;
            loans = other.loans;
            offers = other.offers;
            System.arraycopy(other.kind, 0, kind, 0, MOST_PEOPLE);
            System.arraycopy(other.means, 0, means, 0, MOST_PEOPLE);
            System.arraycopy(other.purse, 0, purse, 0, MOST_PEOPLE);
            System.arraycopy(other.owner, 0, owner, 0, MOST_LOANS);
            System.arraycopy(other.pence, 0, pence, 0, MOST_LOANS);
            System.arraycopy(other.times, 0, times, 0, MOST_LOANS);
            System.arraycopy(other.state, 0, state, 0, MOST_LOANS);
            System.arraycopy(other.given, 0, given, 0, MOST_LOANS);
            System.arraycopy(other.offerPence, 0, offerPence, 0, MOST_OFFERS);
            System.arraycopy(other.offerTimes, 0, offerTimes, 0, MOST_OFFERS);
        }

        boolean hasPerson(int p) {
            return p >= 0 && p < people;
        }

        boolean hasLoan(int l) {
            return l >= 0 && l < loans;
        }

        int addPerson(int itsKind, int itsMeans, int itsPurse) {
            if (people >= MOST_PEOPLE) {
                return FULL;
            }
            kind[people] = itsKind;
            means[people] = itsMeans;
            purse[people] = itsPurse;
            people++;
            return people - 1;
        }

        int addLoan(int itsOwner, int itsPence, int itsTimes) {
            if (loans >= MOST_LOANS) {
                return FULL;
            }
            owner[loans] = itsOwner;
            pence[loans] = itsPence;
            times[loans] = itsTimes;
            state[loans] = RUNS;
            given[loans] = 0;
            loans++;
            return loans - 1;
        }

        int addOffer(int itsPence, int itsTimes) {
            if (offers >= MOST_OFFERS) {
                return FULL;
            }
            offerPence[offers] = itsPence;
            offerTimes[offers] = itsTimes;
            offers++;
            return offers - 1;
        }

        int howManyAre(int wanted) {
            int n = 0;
            for (int l = 0; l < loans; l++) {
                if (state[l] == wanted) {
                    n++;
                }
            }
            return n;
        }

        /** What the rate adds to so many pence given so many times. */
        int gainOf(int itsPence, int itsTimes) {
            return itsPence * itsTimes * rate / 100;
        }

        int wholeOf(int l) {
            return pence[l] * times[l] + gainOf(pence[l], times[l]);
        }

        int givenPence(int l) {
            return pence[l] * given[l];
        }

        /** One month goes by; to the people in the bits nothing comes in it, but who spends does so all the same. */
        void liveMonth(int dry) {
            for (int p = 0; p < people; p++) {
                if (!hasBit(dry, p)) {
                    takeMeans(p);
                }
                spendHalf(p);
            }
            for (int l = 0; l < loans; l++) {
                if (state[l] == RUNS) {
                    giveOrStop(l);
                }
            }
            for (int l = 0; l < loans; l++) {
                if (state[l] == OWED) {
                    payOrLack(l);
                }
            }
            month++;
        }

        void takeMeans(int p) {
            purse[p] = Math.min(PURSE_MOST, purse[p] + comesTo(p));
        }

        void spendHalf(int p) {
            boolean spends = kind[p] == SPENDER || kind[p] == HEIR;
            if (spends && purse[p] > SPENDS_ABOVE) {
                // The spent half is cut up, so the half that stays is cut down.
                purse[p] /= 2;
            }
        }

        int comesTo(int p) {
            boolean fieldHand = kind[p] == FIELD_HAND || kind[p] == GLEANER;
            int comes = fieldHand && month % 3 == 0 ? 0 : means[p];
            if (kind[p] == GLEANER) {
                comes += 2;
            }
            if (kind[p] == HEIR && month % 12 == 6) {
                comes += 60;
            }
            return comes;
        }

        void giveOrStop(int l) {
            int who = owner[l];
            int needed = kind[who] == MISER ? 2 * pence[l] : pence[l];
            if (purse[who] < needed) {
                state[l] = HOLE;
                return;
            }
            purse[who] -= pence[l];
            chest = Math.min(CHEST_MOST, chest + pence[l]);
            given[l]++;
            if (given[l] >= times[l]) {
                state[l] = OWED;
            }
        }

        void payOrLack(int l) {
            int whole = wholeOf(l);
            if (chest < whole) {
                lacks++;
                return;
            }
            int who = owner[l];
            chest -= whole;
            purse[who] = Math.min(PURSE_MOST, purse[who] + whole);
            state[l] = HAD;
        }

        boolean alike(int a, int b) {
            return pence[a] == pence[b] && times[a] == times[b];
        }

        boolean canBeJoined(int a, int b) {
            return state[a] == HOLE && state[b] == HOLE && alike(a, b);
        }

        void putTogether(int a, int b) {
            given[a] = Math.min(times[a], given[a] + given[b]);
            state[a] = given[a] == times[a] ? OWED : HOLE;
            state[b] = GONE;
        }

        boolean holesMakeWhole(int set) {
            int first = NONE;
            int together = 0;
            for (int l = 0; l < loans; l++) {
                if (!hasBit(set, l)) {
                    continue;
                }
                if (first == NONE) {
                    first = l;
                }
                if (state[l] != HOLE || !alike(first, l)) {
                    return false;
                }
                together += given[l];
            }
            return first != NONE && together >= times[first];
        }

        int gainOfOffers(int set) {
            int gain = 0;
            for (int o = 0; o < offers; o++) {
                if (hasBit(set, o)) {
                    gain += gainOf(offerPence[o], offerTimes[o]);
                }
            }
            return gain;
        }

        /** What the loan wants in a run. */
        int wantOf(int l) {
            if (state[l] == OWED) {
                return wholeOf(l);
            }
            return state[l] == RUNS || state[l] == HOLE ? givenPence(l) : 0;
        }

        int wantedByAll() {
            int all = 0;
            for (int l = 0; l < loans; l++) {
                all += wantOf(l);
            }
            return all;
        }

        int leftInOrder() {
            int left = chest;
            for (int l = 0; l < loans; l++) {
                if (wantOf(l) <= left) {
                    left -= wantOf(l);
                }
            }
            return left;
        }

        int paidInOrder() {
            int left = chest;
            int paid = 0;
            for (int l = 0; l < loans; l++) {
                int want = wantOf(l);
                if (want > 0 && want <= left) {
                    left -= want;
                    paid++;
                }
            }
            return paid;
        }

        /** Whoever wants least is paid first: no other order pays more of them. */
        int paidInBestOrder() {
            int left = chest;
            int done = 0;
            int paid = 0;
            for (int turn = 0; turn < loans; turn++) {
                int next = leastWant(done);
                if (next == NONE || wantOf(next) > left) {
                    return paid;
                }
                left -= wantOf(next);
                done |= 1 << next;
                paid++;
            }
            return paid;
        }

        int leastWant(int done) {
            int least = NONE;
            for (int l = 0; l < loans; l++) {
                boolean stillWants = !hasBit(done, l) && wantOf(l) > 0;
                if (stillWants && (least == NONE || wantOf(l) < wantOf(least))) {
                    least = l;
                }
            }
            return least;
        }

        long mixInto(long start) {
            long h = start;
            for (int p = 0; p < people; p++) {
                h = 31 * h + kind[p];
                h = 31 * h + means[p];
                h = 31 * h + purse[p];
            }
            for (int l = 0; l < loans; l++) {
                h = 31 * h + owner[l];
                h = 31 * h + pence[l];
                h = 31 * h + times[l];
                h = 31 * h + state[l];
                h = 31 * h + given[l];
            }
            for (int o = 0; o < offers; o++) {
                h = 31 * h + offerPence[o];
                h = 31 * h + offerTimes[o];
            }
            return h;
        }
    }

    /** What may be undone: one stretch of the row for each moment, the oldest first. */
    private static final class Past {
        static final int PURSES = 5;
        static final int OWNERS = PURSES + MOST_PEOPLE;
        static final int STATES = OWNERS + MOST_LOANS;
        static final int GIVENS = STATES + MOST_LOANS;
        static final int SIZE = GIVENS + MOST_LOANS;

        int kept;
        final int[] row = new int[MOST_UNDONE * SIZE];

        void forget() {
            kept = 0;
        }

        void copyFrom(Past other) {
            kept = other.kept;
            System.arraycopy(other.row, 0, row, 0, MOST_UNDONE * SIZE);
        }

        void keep(Town town) {
            if (kept >= MOST_UNDONE) {
                System.arraycopy(row, SIZE, row, 0, (MOST_UNDONE - 1) * SIZE);
                kept = MOST_UNDONE - 1;
            }
            int at = kept * SIZE;
            row[at] = town.chest;
            row[at + 1] = town.lacks;
            row[at + 2] = town.month;
            row[at + 3] = town.people;
            row[at + 4] = town.loans;
            System.arraycopy(town.purse, 0, row, at + PURSES, MOST_PEOPLE);
            System.arraycopy(town.owner, 0, row, at + OWNERS, MOST_LOANS);
            System.arraycopy(town.state, 0, row, at + STATES, MOST_LOANS);
            System.arraycopy(town.given, 0, row, at + GIVENS, MOST_LOANS);
            kept++;
        }

        /** Whoever and whatever came since is not in the moment, and stays as it is. */
        void goBack(Town town) {
            if (kept <= 0) {
                return;
            }
            kept--;
            int at = kept * SIZE;
            int people = Math.min(row[at + 3], MOST_PEOPLE);
            int loans = Math.min(row[at + 4], MOST_LOANS);
            town.chest = row[at];
            town.lacks = row[at + 1];
            town.month = row[at + 2];
            System.arraycopy(row, at + PURSES, town.purse, 0, people);
            System.arraycopy(row, at + OWNERS, town.owner, 0, loans);
            System.arraycopy(row, at + STATES, town.state, 0, loans);
            System.arraycopy(row, at + GIVENS, town.given, 0, loans);
        }
    }

    private static final class Image {
        final Town town = new Town();
        final Past past = new Past();
        boolean kept;
    }

    /** The text, and how a town is read from it: the token at hand is the fault if it can not stand there. */
    private static final class Text {
        static final int END = 0, WORD = 1, NUMBER = 2, STOP = 3, WRONG = 4;
        static final int MOST_FIGURES = 5;

        int length;
        private final byte[] bytes = new byte[MOST_TEXT];
        private int token;
        private int start;
        private int behind;
        private int value;

        void add(byte c) {
            if (length < MOST_TEXT) {
                bytes[length] = c;
                length++;
            }
        }

        /** How many items were read into the town, or -10 less the fault. */
        int readTown(Town town) {
            behind = 0;
            town.makeEmpty();
            for (int items = 0; items <= length; items++) {
                step();
                if (token == END && items > 0) {
                    return items;
                }
                boolean stands = items == 0 ? isWord("chest") && chestItem(town) : laterItem(town);
                if (!stands) {
                    return READ_FAULT - start;
                }
            }
            return READ_FAULT - length;
        }

        boolean laterItem(Town town) {
            if (isWord("rate")) {
                return rateItem(town);
            }
            if (isWord("person")) {
                return town.people < MOST_PEOPLE && personItem(town);
            }
            if (isWord("loan")) {
                return town.loans < MOST_LOANS && loanItem(town);
            }
            return isWord("offer") && town.offers < MOST_OFFERS && offerItem(town);
        }

        boolean chestItem(Town town) {
            if (!numberWithin(0, CHEST_MOST)) {
                return false;
            }
            town.chest = value;
            return itemEnds();
        }

        boolean rateItem(Town town) {
            if (!numberWithin(0, RATE_MOST)) {
                return false;
            }
            town.rate = value;
            return itemEnds();
        }

        boolean personItem(Town town) {
            if (!numberWithin(STEADY, MISER)) {
                return false;
            }
            int kind = value;
            if (!numberWithin(0, MEANS_MOST)) {
                return false;
            }
            int means = value;
            if (!numberWithin(0, PURSE_MOST)) {
                return false;
            }
            town.addPerson(kind, means, value);
            return itemEnds();
        }

        boolean loanItem(Town town) {
            if (!numberWithin(0, town.people - 1)) {
                return false;
            }
            int owner = value;
            if (!numberWithin(1, PENCE_MOST)) {
                return false;
            }
            int pence = value;
            if (!numberWithin(1, LONG_MOST)) {
                return false;
            }
            town.addLoan(owner, pence, value);
            return itemEnds();
        }

        boolean offerItem(Town town) {
            if (!numberWithin(1, PENCE_MOST)) {
                return false;
            }
            int pence = value;
            if (!numberWithin(1, LONG_MOST)) {
                return false;
            }
            town.addOffer(pence, value);
            return itemEnds();
        }

        boolean numberWithin(int least, int most) {
            step();
            return token == NUMBER && within(value, least, most);
        }

        boolean itemEnds() {
            step();
            return token == STOP;
        }

        /** Goes on to the next token; behind the last one that is the end, at the text's length. */
        void step() {
            start = behind;
            while (start < length && bytes[start] == ' ') {
                start++;
            }
            behind = start;
            if (start >= length) {
                token = END;
                return;
            }
            if (takeWord() || takeNumber()) {
                return;
            }
            token = bytes[start] == ';' ? STOP : WRONG;
            behind = start + 1;
        }

        boolean takeWord() {
            token = WORD;
            while (behind < length && bytes[behind] >= 'a' && bytes[behind] <= 'z') {
                behind++;
            }
            return behind > start;
        }

        /** A number of too many figures is a token, too, but one that can stand nowhere. */
        boolean takeNumber() {
            value = 0;
            while (behind < length && bytes[behind] >= '0' && bytes[behind] <= '9') {
                if (behind - start < MOST_FIGURES) {
                    value = value * 10 + (bytes[behind] - '0');
                }
                behind++;
            }
            token = behind - start <= MOST_FIGURES ? NUMBER : WRONG;
            return behind > start;
        }

        boolean isWord(String word) {
            if (token != WORD || behind - start != word.length()) {
                return false;
            }
            for (int i = 0; i < word.length(); i++) {
                if (bytes[start + i] != word.charAt(i)) {
                    return false;
                }
            }
            return true;
        }
    }

    /** Lets months go by in a trial town; the town itself is never changed. */
    private static final class Foresight {
        static final long FACTOR = 1103515245L, STEP = 12345L, CIRCLE = 2147483648L;
        /** Halving 0 .. 9999 so often leaves one number. */
        static final int HALVINGS = 14;

        final Town trial = new Town();

        Town lookAhead(Town town, int months) {
            trial.copyFrom(town);
            for (int i = 0; i < months; i++) {
                trial.liveMonth(0);
            }
            return trial;
        }

        /** The first month in which lacks grow, were so much in the chest now. */
        int firstLack(Town town, int chest, int months) {
            trial.copyFrom(town);
            trial.chest = chest;
            for (int i = 0; i < months; i++) {
                trial.liveMonth(0);
                if (trial.lacks > town.lacks) {
                    return i;
                }
            }
            return NONE;
        }

        /** A chest that holds pays all at once, and with more in it all goes the same way: so halving finds the least. */
        int leastChest(Town town, int months) {
            if (firstLack(town, HOLDS_MOST, months) != NONE) {
                return NONE;
            }
            int low = 0;
            int high = HOLDS_MOST;
            for (int i = 0; i < HALVINGS && low < high; i++) {
                int middle = (low + high) / 2;
                if (firstLack(town, middle, months) == NONE) {
                    high = middle;
                } else {
                    low = middle + 1;
                }
            }
            return high;
        }

        int bestOffers(Town town, int person) {
            int room = MOST_LOANS - town.loans;
            int holesWithout = lookAhead(town, BEST_MONTHS).howManyAre(HOLE);
            int found = 0;
            int most = 0;
            for (int set = 1; set < 1 << town.offers; set++) {
                int gain = town.gainOfOffers(set);
                // Sets come with rising bits: one that gains no more than another before it is never wanted.
                if (gain > most && Integer.bitCount(set) <= room && canBear(town, person, set, holesWithout)) {
                    most = gain;
                    found = set;
                }
            }
            return found;
        }

        boolean canBear(Town town, int person, int set, int holesWithout) {
            trial.copyFrom(town);
            for (int o = 0; o < town.offers; o++) {
                if (hasBit(set, o)) {
                    trial.addLoan(person, town.offerPence[o], town.offerTimes[o]);
                }
            }
            for (int i = 0; i < BEST_MONTHS; i++) {
                trial.liveMonth(0);
            }
            for (int l = town.loans; l < trial.loans; l++) {
                if (trial.state[l] == HOLE) {
                    return false;
                }
            }
            return trial.howManyAre(HOLE) <= holesWithout;
        }

        int hadInMonth(Town town, int month, int whole) {
            lookAhead(town, month);
            int hadBefore = hadBits();
            trial.liveMonth(0);
            int hadInIt = hadBits() & ~hadBefore;
            int bits = 0;
            for (int l = 0; l < trial.loans; l++) {
                if (hasBit(hadInIt, l) && trial.wholeOf(l) == whole) {
                    bits |= 1 << l;
                }
            }
            return bits;
        }

        int hadBits() {
            int bits = 0;
            for (int l = 0; l < trial.loans; l++) {
                if (trial.state[l] == HAD) {
                    bits |= 1 << l;
                }
            }
            return bits;
        }

        Town drawMonths(Town town, int seed, int dryOfHundred, int months) {
            trial.copyFrom(town);
            long x = seed;
            for (int i = 0; i < months; i++) {
                int dry = 0;
                for (int p = 0; p < trial.people; p++) {
                    x = (x * FACTOR + STEP) % CIRCLE;
                    if (x / 65536 % 100 < dryOfHundred) {
                        dry |= 1 << p;
                    }
                }
                trial.liveMonth(dry);
            }
            return trial;
        }
    }

    /** Tries all ways to leave one's loans; a way is a number to the base of how many heirs there are, the first loan's figure ahead. */
    private static final class Will {
        int least;
        int parts;
        private int heirs;
        private int way;
        private final int[] worth = new int[MOST_LOANS];
        private final int[] heir = new int[MOST_HEIRS];
        private final int[] gets = new int[MOST_HEIRS];

        /** Finds the way by which the least heir has most. */
        void share(Town town, int person, int heirBits) {
            listParts(town, person);
            listHeirs(town, heirBits);
            least = NONE;
            way = 0;
            int ways = countWays();
            for (int w = 0; w < ways; w++) {
                int then = leastShare(w);
                if (then > least) {
                    least = then;
                    way = w;
                }
            }
        }

        int heirOf(int part) {
            if (part < 0 || part >= parts || heirs < 1) {
                return NONE;
            }
            int rest = way;
            for (int p = parts - 1; p > part; p--) {
                rest /= heirs;
            }
            return heir[rest % heirs];
        }

        void listParts(Town town, int person) {
            parts = 0;
            for (int l = 0; l < town.loans; l++) {
                boolean leaves = town.state[l] == RUNS || town.state[l] == HOLE || town.state[l] == OWED;
                if (leaves && town.owner[l] == person) {
                    worth[parts] = town.givenPence(l);
                    parts++;
                }
            }
        }

        void listHeirs(Town town, int heirBits) {
            heirs = 0;
            for (int p = 0; p < town.people && heirs < MOST_HEIRS; p++) {
                if (hasBit(heirBits, p)) {
                    heir[heirs] = p;
                    heirs++;
                }
            }
        }

        int countWays() {
            int ways = 1;
            for (int part = 0; part < parts; part++) {
                ways *= heirs;
            }
            return ways;
        }

        int leastShare(int itsWay) {
            if (heirs < 1) {
                return 0;
            }
            for (int h = 0; h < heirs; h++) {
                gets[h] = 0;
            }
            int rest = itsWay;
            for (int part = parts - 1; part >= 0; part--) {
                gets[rest % heirs] += worth[part];
                rest /= heirs;
            }
            int smallest = gets[0];
            for (int h = 1; h < heirs; h++) {
                smallest = Math.min(smallest, gets[h]);
            }
            return smallest;
        }
    }

    /** The fraction, in lowest terms. */
    private static final class Chance {
        long above = 0;
        long below = 1;
        private final long[] weight = new long[LONG_MOST + 1];

        /**
         * weight[j]: how many of the 10^t even cases of t months bring means j times and let all t be given.
         * That a purse is full may be left aside: a full one gives to the end in any case.
         */
        void giveToTheEnd(Town town, int loan, int c) {
            int months = Math.min(LONG_MOST, town.times[loan] - town.given[loan]);
            int purse = town.purse[town.owner[loan]];
            int means = town.means[town.owner[loan]];
            weight[0] = 1;
            long cases = 1;
            for (int t = 1; t <= months; t++) {
                weight[t] = 0;
                for (int j = t; j >= 0; j--) {
                    long brought = j > 0 ? weight[j - 1] * c : 0;
                    boolean gives = purse + j * means >= t * town.pence[loan];
                    weight[j] = gives ? weight[j] * (10 - c) + brought : 0;
                }
                cases *= 10;
            }
            long good = 0;
            for (int j = 0; j <= months; j++) {
                good += weight[j];
            }
            setLowest(good, cases);
        }

        void setLowest(long up, long down) {
            long divisor = commonDivisor(up, down);
            if (divisor < 1) {
                return;
            }
            above = up / divisor;
            below = down / divisor;
        }

        static long commonDivisor(long a, long b) {
            long x = a;
            long y = b;
            // Each two rounds halve the greater one, so 200 are more than enough.
            for (int i = 0; i < 200 && y != 0; i++) {
                long rest = x % y;
                x = y;
                y = rest;
            }
            return x;
        }
    }
}
