/**
 * The document's words on towns, months, holes, sales, undoing and images, sentence by sentence, each at its edge:
 * the last case that goes one way and the first that goes the other. All answers are worked out by hand.
 */
public final class MonthEdgeTest extends Checks {
    /** "MONTHS have numbers from 0 on (0 at first)." They do not begin again behind 12. */
    static void monthNumbers() {
        fresh();
        due("the first month", x.count(2), 0);
        for (int i = 1; i <= 12; i++) {
            x.pass(1);
            due("month", x.count(2), i);
        }
        x.pass(12);
        x.pass(1);
        due("month", x.count(2), 25);
    }

    /** "THE CHEST (0 .. 99999; 0 at first)", "THE RATE: 0 .. 50 of 100 (0 at first)": what it was. */
    static void chestAndRate() {
        fresh();
        due("chest at first", x.chest(99999), 0);
        due("chest", x.chest(0), 99999);
        due("chest refused", x.chest(100000), BAD);
        due("chest", x.chest(1), 0);
        due("rate at first", x.rate(50), 0);
        due("rate", x.rate(0), 50);
        due("rate refused", x.rate(51), BAD);
        due("rate", x.rate(1), 0);
    }

    /** "it RUNS (0), nothing is GIVEN yet": also where a hole, or one that was had, stood before. */
    static void aNewLoanRuns() {
        fresh();
        x.image(0);
        x.person(0, 0, 5);
        x.loan(0, 5, 1);
        x.loan(0, 9, 9);
        x.pass(1);
        due("had", x.about(0, 3), HAD);
        due("hole", x.about(1, 3), HOLE);
        x.from(0);
        x.person(0, 0, 5);
        for (int l = 0; l < 2; l++) {
            x.loan(0, 3, 2);
            due("it runs", x.about(l, 3), RUNS);
            due("nothing is given", x.about(l, 4), 0);
        }
    }

    static void whole(int pence, int months, int rate, int want) {
        fresh();
        x.person(0, 0, 0);
        x.loan(0, pence, months);
        x.rate(rate);
        due("whole of " + pence + " times " + months + " by " + rate, x.about(0, 5), want);
    }

    /** "WHOLE: PENCE times LONG, and of that RATE of 100 (cut ..)" */
    static void wholeIsCut() {
        whole(1, 1, 0, 1);
        whole(1, 1, 50, 1);
        whole(2, 1, 50, 3);
        whole(3, 1, 50, 4);
        whole(33, 3, 1, 99);
        whole(50, 2, 1, 101);
        whole(99, 12, 50, 1782);
        whole(99, 12, 0, 1188);
        // Cut once, of the product: 3 times 7 is 21, of that 24 of 100 are 5.04; 25 of 100 would be 5.25.
        whole(7, 3, 24, 26);
        whole(7, 3, 23, 25);
    }

    /** "RATE as it is when it is paid": not as it was when it came, nor when it was OWED first. */
    static void rateWhenPaid() {
        fresh();
        x.person(0, 0, 100);
        x.loan(0, 50, 2);
        x.rate(50);
        due("not paid", x.pass(3), 0);
        due("owed", x.about(0, 3), OWED);
        x.rate(1);
        x.chest(101);
        due("paid", x.pass(1), 1);
        due("by one of 100", x.whose(0, 2), 101);
        due("the chest", x.count(0), 0);
    }

    /** "A MONTH: first MEANS come to all": ahead of what is given. */
    static void meansComeFirst() {
        fresh();
        x.person(0, 9, 0);
        x.person(0, 8, 0);
        x.loan(0, 9, 2);
        x.loan(1, 9, 2);
        x.pass(1);
        due("9 of 9", x.about(0, 4), 1);
        due("8 of 9", x.about(1, 3), HOLE);
        purses("means", 0, 8);
    }

    static void monthsOf(String name, int kind, int means, int purse, int... behind) {
        fresh();
        x.person(kind, means, purse);
        for (int m = 0; m < behind.length; m++) {
            x.pass(1);
            due(name + ", month " + m, x.whose(0, 2), behind[m]);
        }
    }

    /** "0 STEADY: MEANS. 1 FIELD HAND (under STEADY): none in MONTHS that 3 divides." 0 is one of them. "3 GLEANER: .. 2 more in each MONTH." */
    static void fieldHands() {
        monthsOf("steady", 0, 1, 0, 1, 2, 3, 4, 5, 6, 7);
        monthsOf("steady without means", 0, 0, 0, 0, 0);
        monthsOf("field hand", 1, 1, 0, 0, 1, 2, 2, 3, 4, 4, 5, 6, 6, 7, 8, 8, 9);
        monthsOf("gleaner", 3, 1, 0, 2, 5, 8, 10, 13, 16, 18, 21);
        monthsOf("gleaner without means", 3, 0, 0, 2, 4, 6, 8);
        monthsOf("a rich field hand spends nothing", 1, 0, 52, 52, 52);
        monthsOf("nor a gleaner", 3, 0, 52, 54, 56);
    }

    /** "2 SPENDER: as STEADY; then, if PURSE is above 50, half of it is spent (cut up)." */
    static void spenders() {
        monthsOf("49", 2, 0, 49, 49);
        monthsOf("50", 2, 0, 50, 50, 50);
        monthsOf("51: 26 are spent", 2, 0, 51, 25, 25);
        monthsOf("52", 2, 0, 52, 26, 26);
        monthsOf("53: 27 are spent", 2, 0, 53, 26);
        monthsOf("103, 51", 2, 0, 103, 51, 25, 25);
        monthsOf("means ahead of spending", 2, 1, 50, 25, 26);
        monthsOf("means up to 50", 2, 1, 49, 50, 25);
        monthsOf("a steady one spends nothing", 0, 0, 51, 51);
        monthsOf("nor a miser", 5, 0, 51, 51);
    }

    /** "4 HEIR (under SPENDER): 60 more in MONTH 6 left over by 12, ahead of what a SPENDER does." */
    static void heirs() {
        monthsOf("heir", 4, 0, 0, 0, 0, 0, 0, 0, 0, 30, 30, 30, 30, 30, 30, 30, 30, 30, 30, 30, 30, 45);
        // 45 and 60 are 105, of which 53 are spent; 52 are above 50 in the next month; 26 and 60 are 86.
        monthsOf("an heir of 45", 4, 0, 45, 45, 45, 45, 45, 45, 45, 52, 26, 26, 26, 26, 26, 26, 26, 26, 26, 26, 26, 43, 43);
        monthsOf("an heir of 51", 4, 0, 51, 25);
        monthsOf("an heir of 50", 4, 0, 50, 50);
        monthsOf("a spender has no 60", 2, 0, 40, 40, 40, 40, 40, 40, 40, 40, 40);
    }

    static void miser(String name, int means, int purse, int pence, int given) {
        fresh();
        x.person(5, means, purse);
        x.loan(0, pence, 12);
        x.pass(1);
        due(name, x.about(0, 4), given);
        due(name, x.about(0, 3), given > 0 ? RUNS : HOLE);
        due(name, x.whose(0, 2), means + purse - given * pence);
    }

    /** "5 MISER: .. he gives only if PURSE is twice what he is to give, or more." */
    static void misers() {
        miser("2 of 1", 0, 2, 1, 1);
        miser("1 of 1", 0, 1, 1, 0);
        miser("198 of 99", 0, 198, 99, 1);
        miser("197 of 99", 0, 197, 99, 0);
        miser("199 of 99", 0, 199, 99, 1);
        miser("19 and 1 of 10", 1, 19, 10, 1);
        fresh();
        x.person(5, 0, 30);
        x.person(5, 0, 29);
        for (int l = 0; l < 4; l++) x.loan(l / 2, 10, 2);
        x.pass(1);
        // 30 gives, 20 gives; 29 gives, 19 does not.
        int[] given = {1, 1, 1, 0};
        for (int l = 0; l < 4; l++) due("a miser's loans one by one: " + l, x.about(l, 4), given[l]);
        purses("misers", 10, 19);
    }

    static void purseBehind(String name, int kind, int means, int purse, int want) {
        monthsOf(name, kind, means, purse, want);
    }

    /** "(PURSES 9999 at most; what is more is lost.)" */
    static void fullPurses() {
        purseBehind("9900 and 99", 0, 99, 9900, 9999);
        purseBehind("9901 and 99", 0, 99, 9901, 9999);
        purseBehind("9899 and 99", 0, 99, 9899, 9998);
        purseBehind("a gleaner's 2", 3, 99, 9997, 9999);
        purseBehind("a gleaner's 2", 3, 99, 9998, 9999);
        purseBehind("a gleaner's 2", 3, 99, 9996, 9998);
        purseBehind("a spender of 9999", 2, 99, 9901, 4999);
        purseBehind("a spender of 9997", 2, 99, 9898, 4998);
        paid(9993, 9998);
        paid(9994, 9999);
        paid(9995, 9999);
        paid(9999, 9999);
        // What is lost does not come back: 9999, then 10 are given.
        fresh();
        x.person(0, 99, 9999);
        x.loan(0, 10, 2);
        x.pass(1);
        purses("9999 at most, then 10 less", 9989);
    }

    /** 10 are given of the purse, 15 come back. */
    static void paid(int purse, int want) {
        fresh();
        x.person(0, 0, purse);
        x.loan(0, 10, 1);
        x.rate(50);
        x.chest(100);
        due("had", x.pass(1), 1);
        purses("paid to " + purse, want);
        due("the chest pays all of it", x.count(0), 95);
    }

    /** "LOANS in order, whoever's LOAN RUNS gives its PENCE .., if his PURSE has so much; else it is a HOLE." */
    static void givenInOrder() {
        fresh();
        x.person(0, 0, 10);
        x.loan(0, 11, 2);
        x.loan(0, 10, 2);
        x.loan(0, 1, 1);
        due("had", x.pass(1), 0);
        int[] state = {HOLE, RUNS, HOLE}, given = {0, 1, 0};
        for (int l = 0; l < 3; l++) {
            due("state " + l, x.about(l, 3), state[l]);
            due("given " + l, x.about(l, 4), given[l]);
        }
        due("the chest", x.count(0), 10);
        purses("given", 0);
    }

    /** A HOLE, a HAD one, an OWED one and a GONE one give no more. */
    static void whoGivesNoMore() {
        BackLoans b = Towns.alike();
        int[] before = new int[6];
        for (int l = 0; l < 6; l++) before[l] = b.about(l, 4);
        b.pass(1);
        for (int l = 0; l < 5; l++) due("given " + l, b.about(l, 4), before[l]);
        due("given 5", b.about(5, 4), 1);
        due("a hole stays one", b.about(2, 3), HOLE);
        due("a gone one stays so", b.about(1, 3), GONE);
    }

    /** "A LOAN of which LONG times was GIVEN is OWED. Then .. each that is OWED is paid": in the same MONTH. */
    static void longTimesGiven() {
        fresh();
        x.person(0, 9, 0);
        x.loan(0, 2, 1);
        x.loan(0, 3, 12);
        due("1 of 1", x.pass(1), 1);
        due("had at once", x.about(0, 3), HAD);
        due("11 of 12", x.pass(10), 0);
        due("runs", x.about(1, 3), RUNS);
        due("given", x.about(1, 4), 11);
        due("12 of 12", x.pass(1), 1);
        due("had", x.about(1, 3), HAD);
        due("given", x.about(1, 4), 12);
    }

    /** ".. is paid its WHOLE from THE CHEST to the PURSE, if THE CHEST has that: it is HAD." */
    static void chestHasThat() {
        int[] chest = {4, 5, 6}, left = {14, 0, 1}, lacks = {1, 0, 0};
        for (int i = 0; i < 3; i++) {
            fresh();
            x.person(0, 0, 10);
            x.loan(0, 10, 1);
            x.rate(50);
            x.chest(chest[i]);
            due("15 of " + (chest[i] + 10), x.pass(1), 1 - lacks[i]);
            due("state", x.about(0, 3), lacks[i] == 1 ? OWED : HAD);
            due("left", x.count(0), left[i]);
            due("lacks", x.count(6), lacks[i]);
            purses("paid", lacks[i] == 1 ? 0 : 15);
        }
    }

    /** In order, each for itself: who can not be paid does not keep back who comes behind. All is given ahead of what is paid. */
    static void paidInOrder() {
        fresh();
        x.person(0, 0, 99);
        x.loan(0, 40, 1);
        x.loan(0, 10, 1);
        x.loan(0, 12, 1);
        x.loan(0, 2, 4);
        x.rate(50);
        x.chest(0);
        // 64 come in: 60 are paid, then 15 and 18 of 4 are not.
        due("the first alone", x.pass(1), 1);
        due("lacks", x.count(6), 2);
        x.rate(0);
        x.chest(9);
        // 11: not 10 and 12, but 10 alone.
        due("the next", x.pass(1), 1);
        due("lacks", x.count(6), 3);
        due("had", x.about(1, 3), HAD);
        fresh();
        x.person(0, 0, 50);
        x.loan(0, 40, 1);
        x.loan(0, 10, 1);
        x.rate(50);
        x.chest(9);
        // 59: not 60, but 15.
        due("the second alone", x.pass(1), 1);
        due("owed", x.about(0, 3), OWED);
        due("had", x.about(1, 3), HAD);
    }

    /** "LACKS: how often, in all MONTHS, one that was OWED was not paid." */
    static void lacksAreCounted() {
        fresh();
        x.person(0, 0, 99);
        x.loan(0, 40, 1);
        x.loan(0, 30, 1);
        x.rate(50);
        x.chest(0);
        // 70 come in, 60 are paid, 45 are not.
        x.pass(1);
        due("one of two", x.count(6), 1);
        x.loan(0, 20, 1);
        x.chest(0);
        x.pass(3);
        due("and two in each of three", x.count(6), 7);
        x.chest(99);
        x.pass(1);
        due("no more", x.count(6), 7);
    }

    static void chestBehind(int chest, int want) {
        fresh();
        x.person(0, 0, 999);
        x.loan(0, 99, 12);
        x.loan(0, 1, 12);
        x.chest(chest);
        x.pass(1);
        due("the chest of " + chest, x.count(0), want);
        purses("given all the same", 899);
    }

    /** "(THE CHEST 99999 at most, what is more is lost.)" */
    static void fullChest() {
        chestBehind(99898, 99998);
        chestBehind(99899, 99999);
        chestBehind(99900, 99999);
        chestBehind(99999, 99999);
        fresh();
        x.person(0, 0, 99);
        x.loan(0, 99, 1);
        x.chest(99999);
        due("had", x.pass(1), 1);
        due("lost ahead of what is paid", x.count(0), 99900);
    }

    static void joined(int first, int second, int times, int state, int given) {
        fresh();
        x.person(0, 0, first);
        x.person(0, 0, second);
        x.loan(0, 1, times);
        x.loan(1, 1, times);
        x.pass(12);
        String name = first + " and " + second + " of " + times;
        due(name, x.join(0, 1), state);
        due(name + ": what it is", x.about(0, 3), state);
        due(name + ": given", x.about(0, 4), given);
        due(name + ": the other one", x.about(1, 3), GONE);
        due(name + ": whose", x.about(0, 0), 0);
        due(name + ": may be undone", x.count(7), 8);
    }

    /** "JOINED: .. put together to the first one (LONG at most): if that is LONG, it is OWED, else still a HOLE; the other one is GONE." */
    static void joinedHoles() {
        joined(0, 0, 12, HOLE, 0);
        joined(0, 5, 12, HOLE, 5);
        joined(5, 0, 12, HOLE, 5);
        joined(3, 1, 5, HOLE, 4);
        joined(3, 2, 5, OWED, 5);
        joined(3, 3, 5, OWED, 5);
        joined(4, 4, 5, OWED, 5);
        joined(11, 11, 12, OWED, 12);
        joined(1, 1, 2, OWED, 2);
        fresh();
        x.person(0, 0, 3);
        x.person(0, 0, 2);
        x.loan(0, 1, 5);
        x.loan(1, 1, 5);
        x.pass(4);
        x.rate(20);
        x.chest(6);
        due("the second one first", x.join(1, 0), OWED);
        due("had", x.pass(1), 1);
        purses("paid to whose the first one is", 0, 6);
    }

    static void sold(String name, int seller, int buyer, int price, int sellerThen, int buyerThen) {
        fresh();
        x.person(0, 0, seller);
        x.person(0, 0, buyer);
        x.loan(0, 9, 9);
        due(name, x.sell(0, 1, price), 0);
        purses(name, sellerThen, buyerThen);
        due(name + ": whose", x.about(0, 0), 1);
        due(name + ": may be undone", x.count(7), 1);
    }

    /** "SOLD: .. another PERSON's for a PRICE (0 .. 9999) from PURSE to PURSE." */
    static void soldLoans() {
        sold("for nothing", 0, 0, 0, 0, 0);
        sold("for all", 1, 7, 7, 8, 0);
        sold("for 9999", 0, 9999, 9999, 9999, 0);
        sold("up to 9999", 9990, 20, 9, 9999, 11);
        sold("what is more is lost", 9990, 20, 10, 9999, 10);
        sold("all of it is lost", 9999, 9999, 9999, 9999, 0);
        fresh();
        x.person(0, 0, 3);
        x.person(0, 0, 9);
        x.loan(0, 3, 4);
        x.pass(1);
        x.sell(0, 1, 0);
        due("the buyer gives the rest", x.pass(3), 1);
        purses("and has it", 0, 12);
    }

    /** "UNDO: .. as ahead of the last MONTH gone by, JOINED or SOLD ones (8 at most)" */
    static void undoneEight() {
        for (int months = 7; months <= 10; months++) {
            fresh();
            x.person(0, 1, 0);
            x.pass(months);
            int may = Math.min(8, months);
            due("after " + months, x.count(7), may);
            for (int i = 1; i <= may; i++) {
                due("undo", x.undo(), 1);
                due("month", x.count(2), months - i);
                due("left", x.count(7), may - i);
                purses("undone", months - i);
            }
            no("no more", before(), x.undo());
            due("the month", x.count(2), months - may);
        }
    }

    /** Eight of three sorts, one each; the ninth pushes the oldest out. Whose it was comes back, also where that is not 0. */
    static void undoneSorts() {
        fresh();
        x.person(0, 0, 50);
        x.person(0, 0, 8);
        x.person(0, 0, 4);
        x.loan(1, 8, 5);
        x.loan(2, 4, 5);
        x.loan(2, 8, 5);
        x.pass(2);
        x.sell(0, 0, 5);
        x.sell(2, 0, 5);
        x.sell(1, 0, 5);
        due("three sold ones", x.count(7), 5);
        due("joined", x.join(2, 0), HOLE);
        x.sell(2, 1, 0);
        x.pass(1);
        due("eight", x.count(7), 8);
        long behind = x.digest();
        x.image(0);
        x.pass(1);
        due("eight at most", x.count(7), 8);
        x.undo();
        due("the month", x.count(2), 3);
        x.from(0);
        due("digest", x.digest(), behind);
        x.undo();
        due("the third month", x.count(2), 2);
        x.undo();
        due("sold back", x.about(2, 0), 0);
        x.undo();
        due("not joined", x.about(0, 3) * 10 + x.about(2, 3), 22);
        due("not given", x.about(2, 4), 0);
        x.undo();
        due("unsold", x.about(1, 0), 2);
        x.undo();
        due("unsold", x.about(2, 0), 2);
        x.undo();
        due("unsold", x.about(0, 0), 1);
        purses("unsold", 50, 0, 0);
        x.undo();
        x.undo();
        due("all of it", x.undo(), NO);
        due("month", x.count(2), 0);
        purses("at first", 50, 8, 4);
        due("runs", x.about(1, 3), RUNS);
    }

    /** "LOANS and PEOPLE that came since stay as they are then"; RATE, OFFERS and THE TEXT are not named, so they stay. */
    static void whatCameSince() {
        fresh();
        x.person(0, 5, 0);
        x.loan(0, 2, 12);
        x.pass(1);
        x.person(0, 3, 10);
        x.loan(1, 4, 12);
        x.rate(7);
        x.offer(1, 2);
        x.type(65);
        x.pass(1);
        purses("two months", 6, 9);
        x.undo();
        purses("the second is undone", 3, 10);
        due("given", x.about(1, 4), 0);
        x.pass(1);
        x.person(2, 0, 77);
        x.undo();
        purses("the third one stays", 3, 10, 77);
        x.undo();
        purses("the others stay as they are", 0, 10, 77);
        due("the loan stays", x.about(1, 0) * 100 + x.about(1, 1) * 10 + x.about(1, 3), 140);
        due("people", x.count(3), 3);
        due("loans", x.count(4), 2);
        due("rate, offers, bytes", x.count(1) * 100 + x.count(5) * 10 + x.count(8), 711);
        due("no more", x.undo(), NO);
    }

    /** One that came since, and changed since without a month that could be undone: it is told as it is now. */
    static void whatCameSinceAsItIsThen() {
        fresh();
        x.person(0, 0, 20);
        x.pass(1);
        x.person(0, 0, 50);
        x.loan(1, 5, 3);
        x.pass(9);
        // The month ahead of the loan is forgotten, the eight that are left all know it.
        for (int i = 0; i < 8; i++) x.undo();
        due("the month", x.count(2), 2);
        due("given once", x.about(0, 4), 1);
        due("no more", x.undo(), NO);
        fresh();
        x.pass(8);
        x.person(0, 0, 50);
        x.loan(0, 5, 3);
        x.sell(0, 0, 0);
        x.pass(1);
        x.undo();
        due("not given", x.about(0, 4), 0);
        x.undo();
        due("it stays", x.about(0, 3), RUNS);
        purses("it stays", 50);
    }

    /** What is no MONTH, JOINED or SOLD one can not be undone; nor can a refused call. The chest is as it was ahead of the month. */
    static void whatIsNotUndone() {
        fresh();
        x.chest(5);
        x.rate(5);
        x.person(0, 1, 1);
        x.loan(0, 1, 1);
        x.offer(1, 1);
        x.image(0);
        x.luck(0, 1);
        x.join(0, 0);
        x.sell(0, 0, 0);
        x.pass(0);
        x.pass(13);
        x.foretold(60, 0);
        due("nothing may be undone", x.count(7), 0);
        x.pass(1);
        x.chest(77);
        x.undo();
        due("the chest ahead of the month", x.count(0), 5);
        x.from(0);
        due("nothing may be undone", x.undo(), NO);
    }

    /** All people and all loans are undone, whichever are more. */
    static void allAreUndone() {
        fresh();
        x.person(0, 1, 50);
        x.person(0, 2, 60);
        for (int l = 0; l < 8; l++) x.loan(l % 2, 1 + l, 12);
        x.pass(1);
        for (int l = 0; l < 8; l++) due("given " + l, x.about(l, 4), 1);
        x.undo();
        for (int l = 0; l < 8; l++) due("not given " + l, x.about(l, 4), 0);
        purses("undone", 50, 60);
        fresh();
        for (int p = 0; p < 6; p++) x.person(0, 1 + p, p);
        x.loan(5, 1, 12);
        x.pass(1);
        purses("a month", 1, 3, 5, 7, 9, 10);
        x.undo();
        purses("undone", 0, 1, 2, 3, 4, 5);
    }

    /** "UNDO: .. LACKS": as ahead of the month. */
    static void lacksUndone() {
        fresh();
        // Two months ahead of the loan, so that lacks and months are not alike.
        x.pass(2);
        x.person(0, 0, 9);
        x.loan(0, 9, 1);
        x.rate(50);
        x.pass(3);
        due("lacks", x.count(6), 3);
        for (int lacks = 2; lacks >= 0; lacks--) {
            x.undo();
            due("lacks", x.count(6), lacks);
            due("month", x.count(2), lacks + 2);
        }
        due("runs", x.about(0, 3), RUNS);
    }

    /** "IMAGES 0, 1 keep all but them, THE TEXT, THE FRACTION and STATUS; what may be undone they keep; it goes on from one." */
    static void images() {
        for (int i = 0; i < 2; i++) {
            BackLoans b = Towns.mixed();
            due("image " + i, b.image(i), 1);
            long was = b.digest();
            b.read();
            b.person(5, 99, 9999);
            b.pass(12);
            b.none();
            b.offer(99, 12);
            b.type(65);
            due("from " + i, b.from(i), 1);
            due("the text stays", b.count(8), Towns.A_TOWN.length() + 1);
            type(b, Towns.A_TOWN);
            due("image " + i, b.digest(), was);
            // What was done behind it is not in it, and it can be had again.
            b.undo();
            b.from(i);
            due("image " + i + " again", b.digest(), was);
            likeNew("image " + i, without(b, i), without(Towns.mixed(), i));
        }
        fresh();
        x.image(0);
        x.image(1);
        x.chest(5);
        x.image(1);
        x.chest(6);
        x.from(0);
        due("an empty town was kept", x.count(0), 0);
        x.from(1);
        due("the later image", x.count(0), 5);
    }

    /** The other image alone is to be compared. */
    static BackLoans without(BackLoans b, int i) {
        b.image(i);
        return b;
    }

    /** An image's eight moments, in a town that has moments of its own. */
    static void imagesKeepThePast() {
        fresh();
        x.person(0, 5, 0);
        x.pass(9);
        x.image(1);
        for (int i = 0; i < 8; i++) x.undo();
        x.person(0, 7, 7);
        x.pass(12);
        x.from(1);
        due("one person", x.count(3), 1);
        due("eight", x.count(7), 8);
        for (int m = 8; m >= 1; m--) {
            x.undo();
            due("month", x.count(2), m);
            purses("month " + m, 5 * m);
        }
        due("no more", x.undo(), NO);
    }

    public static void main(String[] args) {
        monthNumbers();
        chestAndRate();
        aNewLoanRuns();
        wholeIsCut();
        rateWhenPaid();
        meansComeFirst();
        fieldHands();
        spenders();
        heirs();
        misers();
        fullPurses();
        givenInOrder();
        whoGivesNoMore();
        longTimesGiven();
        chestHasThat();
        paidInOrder();
        lacksAreCounted();
        fullChest();
        joinedHoles();
        soldLoans();
        undoneEight();
        undoneSorts();
        whatCameSince();
        whatCameSinceAsItIsThen();
        whatIsNotUndone();
        allAreUndone();
        lacksUndone();
        images();
        imagesKeepThePast();
        end("edges of months: all answers are as due");
    }
}
