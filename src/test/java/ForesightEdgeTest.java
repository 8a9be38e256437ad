/**
 * The document's words on what is foretold, on runs, wills, luck and drawn months, sentence by sentence, each at its edge.
 * All answers are worked out by hand; the draws of the seeds, too.
 */
public final class ForesightEdgeTest extends Checks {
    /** One person and his loan: pence, months. */
    static void one(int kind, int means, int purse, int pence, int months) {
        fresh();
        x.person(kind, means, purse);
        x.loan(0, pence, months);
    }

    /** "FORETOLD by m MONTHS (0 .. 60)": what is there when so many have gone by; by 0 what is there now. */
    static void foretoldIsWhatComes() {
        for (int m = 0; m <= 60; m += m < 14 ? 1 : 23) {
            foretoldIsWhatComes(Towns.mixed(), Towns.mixed(), m);
            foretoldIsWhatComes(Towns.full(), Towns.full(), m);
            foretoldIsWhatComes(Towns.alike(), Towns.alike(), m);
        }
    }

    static void foretoldIsWhatComes(BackLoans asked, BackLoans gone, int m) {
        for (int left = m; left > 0; left -= 12) gone.pass(Math.min(12, left));
        String name = "foretold " + m + " ";
        due(name + "chest", asked.foretold(m, 0), gone.count(0));
        due(name + "lacks", asked.foretold(m, 1), gone.count(6));
        int[] are = new int[5];
        for (int l = 0; l < gone.count(4); l++) {
            are[gone.about(l, 3)]++;
            due(name + "loan " + l, asked.loanThen(m, l, 0), gone.about(l, 3));
            due(name + "given " + l, asked.loanThen(m, l, 1), gone.about(l, 4));
        }
        due(name + "had", asked.foretold(m, 2), are[HAD]);
        due(name + "holes", asked.foretold(m, 3), are[HOLE]);
        due(name + "owed", asked.foretold(m, 4), are[OWED]);
        for (int p = 0; p < gone.count(3); p++) due(name + "purse " + p, asked.purse(m, p), gone.whose(p, 2));
    }

    /** "FIRST LACK within m MONTHS: the first of them (0 on) in which LACKS grow; none." */
    static void firstLack() {
        for (int months : new int[] {1, 2, 12}) {
            one(0, 0, 999, 10, months);
            x.rate(50);
            due("not within " + (months - 1), x.lack(months - 1), NONE);
            due("within " + months, x.lack(months), months - 1);
            due("within 60", x.lack(60), months - 1);
            x.chest(5 * months - 1);
            due("a penny too few", x.lack(60), months - 1);
            x.chest(5 * months);
            due("enough", x.lack(60), NONE);
            due("within none", x.lack(0), NONE);
        }
        one(0, 10, 0, 10, 2);
        x.rate(50);
        due("given of what comes", x.lack(60), 1);
        due("and so it can be held", x.holds(60), 10);
        one(0, 9, 0, 10, 2);
        x.rate(50);
        due("a hole never lacks", x.lack(60), NONE);
        one(0, 0, 99, 10, 3);
        x.rate(50);
        x.pass(2);
        due("from now on", x.lack(60), 0);
        x.pass(4);
        due("lacks that were", x.count(6), 4);
        due("they grow on", x.lack(1), 0);
        due("within none", x.lack(0), NONE);
        x.chest(44);
        due("they grow on", x.lack(1), 0);
        x.chest(45);
        due("they were, but grow no more", x.lack(60), NONE);
        x.loan(0, 20, 4);
        due("a later one", x.lack(60), 3);
    }

    /** "HOLDS for m MONTHS: the least CHEST (0 .. 9999) that, were it there now, lets no LACKS grow in them; none." */
    static void holds() {
        one(0, 0, 999, 10, 2);
        x.rate(50);
        int[] want = {0, 0, 10, 10};
        for (int m = 0; m < 4; m++) due("holds " + m, x.holds(m), want[m]);
        due("holds 60", x.holds(60), 10);
        x.chest(99999);
        due("what is there does not matter", x.holds(60), 10);
        due("nor is it changed", x.count(0), 99999);
        x.rate(0);
        due("without a rate", x.holds(60), 0);
        one(0, 0, 999, 1, 1);
        x.rate(50);
        due("1 and half of it, cut", x.holds(1), 0);
        x.loan(0, 2, 1);
        due("a penny", x.holds(1), 1);
        // One that is OWED now lacks in the first month, but in none of no months.
        one(0, 0, 10, 10, 1);
        x.rate(50);
        x.pass(1);
        due("owed, none", x.holds(0), 0);
        due("owed, one", x.holds(1), 15);
        x.chest(14);
        due("14 do not hold", x.lack(1), 0);
        x.chest(15);
        due("15 do", x.lack(1), NONE);
        holdsIsTheLeast();
        holdsAtMost();
    }

    /** Chests of 9999 and of 10000 that would be needed. */
    static void holdsAtMost() {
        x = Towns.seven(98, 97, 9);
        due("7 times 1764 less 7 times 294 less 291", x.holds(3), 9999);
        due("not yet", x.holds(2), 0);
        x = Towns.seven(91, 96, 10);
        due("7 times 1638 less 7 times 182 less 192: 10000", x.holds(2), NONE);
        x.chest(99999);
        due("none, whatever there is", x.holds(2), NONE);
        due("though no lacks grow by what there is", x.lack(2), NONE);
    }

    /** In any town: so much lets no lacks grow, and a penny less does. */
    static void holdsIsTheLeast() {
        for (int m : new int[] {0, 1, 2, 5, 12, 60}) {
            for (BackLoans b : new BackLoans[] {Towns.mixed(), Towns.full(), Towns.alike()}) {
                int least = b.holds(m);
                b.chest(least);
                due("holds " + m + ": " + least, b.lack(m), NONE);
                if (least == 0) continue;
                b.chest(least - 1);
                due("holds " + m + ": less than " + least, b.lack(m) >= 0 ? 1 : 0, 1);
            }
        }
    }

    static void best(String name, int person, int much, int set) {
        due("best: " + name + ": how much", x.best(person, 0), much);
        due("best: " + name + ": the set", x.best(person, 1), set);
    }

    /** "of all sets of OFFERS (bits; no more than there is room for LOANS)", "(none of them: 0, 0)" */
    static void bestHasRoom() {
        for (int loans = 0; loans <= 8; loans++) {
            fresh();
            x.rate(50);
            x.person(0, 99, 9999);
            for (int l = 0; l < loans; l++) x.loan(0, 1, 1);
            for (int o = 0; o < 8; o++) x.offer(2, 1);
            best("room for " + (8 - loans), 0, 8 - loans, (1 << 8 - loans) - 1);
        }
        fresh();
        x.rate(50);
        x.person(0, 99, 9999);
        best("no offers", 0, 0, 0);
        x.offer(99, 12);
        best("one offer", 0, 594, 1);
        x.rate(0);
        best("no rate", 0, 0, 0);
        // Loans that are had or gone take room, too.
        fresh();
        x.rate(50);
        x.person(0, 99, 9999);
        for (int l = 0; l < 7; l++) x.loan(0, 1, 1);
        x.pass(1);
        x.offer(2, 1);
        x.offer(2, 1);
        best("room for one", 0, 1, 1);
        x.loan(0, 1, 1);
        best("no room", 0, 0, 0);
    }

    /** "none is a HOLE behind the next 12 MONTHS": the purse lasts for just so long. */
    static void bestIsBorne() {
        for (int purse = 11; purse <= 13; purse++) {
            fresh();
            x.rate(50);
            x.person(0, 0, purse);
            x.offer(1, 12);
            best("12 of " + purse, 0, purse < 12 ? 0 : 6, purse < 12 ? 0 : 1);
        }
        fresh();
        x.rate(50);
        x.person(0, 10, 0);
        x.offer(10, 12);
        x.offer(11, 1);
        x.offer(10, 1);
        // 11 can not be borne; of the two of 10 one alone.
        best("means of 10", 0, 60, 1);
        // OWED behind 12 months is no hole: the chest need not have it.
        x.none();
        x.offer(10, 1);
        x.chest(0);
        best("owed is no hole", 0, 5, 1);
        x.loan(0, 10, 1);
        due("it would be owed", x.loanThen(12, 0, 0), OWED);
    }

    /** "of like ones the least bits": not the fewest. */
    static void bestOfLikeOnes() {
        fresh();
        x.rate(50);
        x.person(0, 0, 8);
        x.offer(8, 1);
        x.offer(4, 1);
        x.offer(4, 1);
        best("8, or 4 and 4", 0, 4, 1);
        x.none();
        x.offer(4, 1);
        x.offer(4, 1);
        x.offer(8, 1);
        best("4 and 4, or 8", 0, 4, 3);
        x.none();
        x.offer(4, 1);
        x.offer(8, 1);
        x.offer(4, 1);
        best("8, or the 4 around it", 0, 4, 2);
        // An offer of 1 by 1 brings nothing: it is left out.
        x.none();
        x.offer(1, 1);
        x.offer(4, 1);
        best("one that brings nothing", 0, 2, 2);
    }

    /** "were they his LOANS from now on (behind the others, in order)": a miser tells the order. */
    static void bestInOrder() {
        fresh();
        x.rate(50);
        x.person(5, 0, 20);
        x.offer(10, 1);
        x.offer(2, 1);
        best("10, then 2 of 10", 0, 6, 3);
        x.none();
        x.offer(2, 1);
        x.offer(10, 1);
        best("2, then 10 of 18: no", 0, 5, 2);
        x.none();
        x.offer(2, 1);
        x.loan(0, 10, 1);
        best("2 behind 10", 0, 1, 1);
        fresh();
        x.rate(50);
        x.person(5, 0, 20);
        x.loan(0, 2, 1);
        x.offer(10, 1);
        best("10 behind 2: no", 0, 0, 0);
    }

    /** ".. nor are more of the others than without them" */
    static void bestHarmsNoOther() {
        // 10 a month go to the other loan, 9 are left: twice 9 would make it a hole.
        for (int purse = 9; purse <= 18; purse += 9) {
            one(0, 10, purse, 10, 12);
            x.rate(50);
            x.offer(9, 2);
            best("twice 9 beside 10, of " + purse, 0, purse == 18 ? 9 : 0, purse == 18 ? 1 : 0);
        }
        // 10 are given once and owed till the chest has 15, in the fifth month: 15 last so long, 14 do not, and the other one is a hole.
        for (int purse = 14; purse <= 15; purse++) {
            one(0, 0, purse, 1, 12);
            x.rate(50);
            x.offer(10, 1);
            best("owed too long beside the other one, of " + purse, 0, purse == 15 ? 5 : 0, purse == 15 ? 1 : 0);
        }
        // Without it the other one is a hole in the twelfth month, with it not: fewer are not more.
        one(0, 0, 11, 1, 12);
        x.rate(50);
        x.offer(2, 1);
        due("without it a hole", x.foretold(12, 3), 1);
        best("it saves the other one", 0, 1, 1);
        // That one is saved does not make good that an offer is a hole itself.
        x.offer(99, 12);
        best("it saves the other one, beside it a hole", 0, 1, 1);
        // The other one is a hole with it and without it.
        one(0, 0, 5, 1, 12);
        x.rate(50);
        x.offer(2, 1);
        best("a hole that is one anyway", 0, 1, 1);
        // It is another's who is harmed by nothing, and a hole already.
        BackLoans b = Towns.mixed();
        b.none();
        b.offer(2, 1);
        due("holes there already", b.best(1, 1), 1);
        due("an empty purse bears none", b.best(0, 1), 0);
    }

    static void holesOf(int months, int... purses) {
        fresh();
        for (int p : purses) x.person(0, 0, p);
        for (int l = 0; l < purses.length; l++) x.loan(l, 1, months);
        x.pass(12);
    }

    /** "JOINS: the fewest HOLES .. of like PENCE and LONG of which was GIVEN LONG times together, or more; none." */
    static void joins() {
        holesOf(5, 2, 3);
        due("2 and 3 of 5", x.joins(), 3);
        holesOf(6, 2, 3);
        due("2 and 3 of 6", x.joins(), NONE);
        holesOf(5, 3, 3);
        due("3 and 3 of 5", x.joins(), 3);
        holesOf(12, 11);
        due("11 of 12 alone", x.joins(), NONE);
        holesOf(12, 11, 0);
        due("11 and 0 of 12", x.joins(), NONE);
        holesOf(12, 11, 0, 1);
        due("11 and 1 of 12", x.joins(), 5);
        holesOf(6, 1, 5, 5, 1);
        due("of like ones the least", x.joins(), 3);
        holesOf(6, 2, 2, 2, 5, 5);
        due("two rather than three, though greater bits", x.joins(), 9);
        holesOf(6, 2, 2, 2, 3, 3);
        due("3 and 3", x.joins(), 24);
        joinsOfUnlikeOnes();
        joinsOfAll();
    }

    static void joinsOfUnlikeOnes() {
        fresh();
        x.person(0, 0, 3);
        x.person(0, 0, 6);
        x.person(0, 0, 3);
        x.loan(0, 1, 4);
        x.loan(1, 2, 4);
        x.loan(2, 1, 5);
        x.pass(6);
        for (int l = 0; l < 3; l++) due("a hole of 3", x.about(l, 3) * 10 + x.about(l, 4), 23);
        due("other pence, another long", x.joins(), NONE);
        BackLoans b = Towns.alike();
        due("had, gone, owed, running ones aside", b.joins(), 12);
        b.join(2, 3);
        due("what is joined is owed", b.joins(), NONE);
    }

    /** All eight are needed; and were one more needed, none do. */
    static void joinsOfAll() {
        for (int months = 7; months <= 9; months++) {
            fresh();
            x.person(0, 0, 8);
            for (int l = 0; l < 8; l++) x.loan(0, 1, months);
            x.pass(2);
            due("eight holes of " + months, x.joins(), months == 7 ? 127 : months == 8 ? 255 : NONE);
        }
    }

    static void run(String name, int paid, int left, int order, int stays) {
        int[] want = {paid, left, order, stays};
        for (int what = 0; what < 4; what++) due("run of " + name + " " + what, x.run(what), want[what]);
    }

    /** "each who wants more than 0 is paid if THE CHEST has that yet", "ORDER", "STAYS: how much THE CHEST lacks to pay all (0: nothing)" */
    static void runs() {
        one(0, 0, 99, 10, 9);
        x.chest(5);
        run("nothing given", 0, 5, 0, 0);
        x.pass(1);
        int[][] want = {{0, 0, 0, 0, 10}, {9, 0, 9, 0, 1}, {10, 1, 0, 1, 0}, {11, 1, 1, 1, 0}, {99999, 1, 99989, 1, 0}};
        for (int[] w : want) {
            x.chest(w[0]);
            run("10 of " + w[0], w[1], w[2], w[3], w[4]);
        }
        one(0, 0, 9, 1, 9);
        x.pass(1);
        run("a penny of a penny", 1, 0, 1, 0);
        x.chest(0);
        run("a penny of none", 0, 0, 0, 1);
        fresh();
        x.person(0, 0, 99);
        for (int pence : new int[] {10, 6, 5}) x.loan(0, pence, 9);
        x.pass(1);
        int[][] three = {{4, 0, 4, 0, 17}, {5, 1, 0, 1, 16}, {10, 1, 0, 1, 11}, {11, 1, 1, 2, 10}, {15, 2, 0, 2, 6},
            {16, 2, 0, 2, 5}, {20, 2, 4, 2, 1}, {21, 3, 0, 3, 0}, {22, 3, 1, 3, 0}};
        for (int[] w : three) {
            x.chest(w[0]);
            run("10, 6, 5 of " + w[0], w[1], w[2], w[3], w[4]);
        }
        // In the town of like ones: had, gone, two holes that want 10, one owed its whole of 30, one that runs with nothing given.
        x = Towns.alike();
        int[][] alike = {{9, 0, 9, 0, 41}, {20, 2, 0, 2, 30}, {49, 2, 29, 2, 1}, {50, 3, 0, 3, 0}, {51, 3, 1, 3, 0}};
        for (int[] w : alike) {
            x.chest(w[0]);
            run("like ones of " + w[0], w[1], w[2], w[3], w[4]);
        }
        x.rate(0);
        x.chest(40);
        run("the owed one wants its whole by the rate now", 3, 0, 3, 0);
    }

    static void will(String name, int person, int heirs, int much, int... who) {
        due("will: " + name, x.will(person, heirs, NONE), much);
        for (int i = 0; i < who.length; i++) due("will: " + name + " " + i, x.will(person, heirs, i), who[i]);
        due("will: " + name + ": not so many", x.will(person, heirs, who.length), -5);
    }

    /** "WILL of a PERSON: his LOANS .. to the other PEOPLE told (bits, 1 to 3 of them) .. the least that one of them gets is most; of like ones the first" */
    static void wills() {
        fresh();
        for (int p = 0; p < 6; p++) x.person(0, 0, 100);
        will("nothing to leave", 0, 2, 0);
        will("nothing to leave to three", 3, 7, 0);
        x.loan(3, 1, 9);
        will("nothing is given", 3, 32, 0, 5);
        x.pass(1);
        will("all to one", 3, 32, 1, 5);
        will("one of two gets none", 3, 33, 0, 0);
        will("two of three get none", 3, 52, 0, 2);
        fresh();
        for (int p = 0; p < 6; p++) x.person(0, 0, 100);
        for (int l = 0; l < 8; l++) x.loan(2, 1, 9);
        x.pass(1);
        will("eight to one", 2, 1, 8, 0, 0, 0, 0, 0, 0, 0, 0);
        will("eight to two", 2, 1 | 8, 4, 0, 0, 0, 0, 3, 3, 3, 3);
        will("eight to three", 2, 1 | 8 | 32, 2, 0, 0, 0, 0, 3, 3, 5, 5);
        fresh();
        for (int p = 0; p < 3; p++) x.person(0, 0, 100);
        for (int pence : new int[] {1, 9, 2}) x.loan(0, pence, 9);
        x.pass(1);
        will("1 and 2, and 9", 0, 6, 3, 1, 2, 1);
        x = Towns.alike();
        // Person 0: one had, one owed (twice 10 given, whole 30), one that runs.
        will("an owed one is worth what was given", 0, 2, 20, 1, 1);
        will("a gone one is no more", 1, 1, 0);
        will("a hole", 3, 1, 10, 0);
    }

    /** "WHOM: LOANS (bits) that are HAD in the k-th MONTH from now (0 .. 59), by a WHOLE of x (any number)." */
    static void whom() {
        fresh();
        x.person(0, 99, 999);
        x.chest(999);
        x.rate(50);
        x.loan(0, 2, 1);
        x.loan(0, 1, 12);
        x.loan(0, 6, 2);
        x.loan(0, 12, 1);
        x.loan(0, 12, 1);
        int[][] want = {{0, 3, 1}, {0, 2, 0}, {0, 4, 0}, {0, 18, 24}, {1, 18, 4}, {2, 18, 0}, {10, 18, 0}, {11, 18, 2}, {12, 18, 0},
            {59, 18, 0}, {0, 0, 0}, {0, -3, 0}, {0, Integer.MIN_VALUE, 0}, {0, Integer.MAX_VALUE, 0}};
        for (int[] w : want) due("whom " + w[0] + " " + w[1], x.whom(w[0], w[1]), w[2]);
        x.pass(1);
        due("what was had is not had again", x.whom(0, 3), 0);
        due("from now", x.whom(0, 18), 4);
        one(0, 10, 0, 10, 2);
        due("given of what comes", x.whom(1, 20), 1);
        // One that is owed, and not paid: not had.
        one(0, 0, 10, 10, 1);
        x.rate(50);
        x.chest(4);
        due("14 of 15", x.whom(0, 15), 0);
        x.chest(5);
        due("15 of 15", x.whom(0, 15), 1);
    }

    /** "PRICE of a LOAN: what was GIVEN, times how often it was, by LONG (cut)." */
    static void price() {
        one(0, 0, 9999, 99, 12);
        int[] want = {0, 8, 33, 74, 132, 206, 297, 404, 528, 668, 825, 998, 1188};
        for (int given = 0; given <= 12; given++) {
            due("price, given " + given, x.price(0), want[given]);
            x.pass(1);
        }
        due("a had one's", x.price(0), 1188);
        one(0, 0, 9, 9, 1);
        due("of one month, nothing given", x.price(0), 0);
        x.pass(1);
        due("of one month", x.price(0), 9);
        one(0, 0, 1, 1, 2);
        x.pass(2);
        due("half a penny", x.price(0), 0);
        one(0, 0, 2, 2, 2);
        x.pass(2);
        due("a hole's penny", x.price(0), 1);
        x.rate(50);
        due("the rate does not matter", x.price(0), 1);
    }

    static void luck(String name, int c, long above, long below) {
        due("luck: " + name, x.luck(0, c), 1);
        due("luck: " + name + ": above", x.part(0), above);
        due("luck: " + name + ": below", x.part(1), below);
    }

    /** "LUCK .. by c of 10 (0 .. 10)": the least and the most, and lowest terms, below above 0. */
    static void luck() {
        one(0, 1, 4, 5, 1);
        int[][] lowest = {{0, 0, 1}, {1, 1, 10}, {2, 1, 5}, {4, 2, 5}, {5, 1, 2}, {6, 3, 5}, {8, 4, 5}, {9, 9, 10}, {10, 1, 1}};
        for (int[] w : lowest) luck("one of one, " + w[0], w[0], w[1], w[2]);
        one(0, 1, 3, 5, 1);
        luck("means too small", 10, 0, 1);
        one(0, 0, 4, 5, 1);
        luck("no means", 10, 0, 1);
        one(0, 0, 5, 5, 1);
        luck("the purse is enough", 0, 1, 1);
        one(0, 1, 0, 1, 12);
        luck("twelve of twelve", 1, 1, 1000000000000L);
        luck("twelve of twelve", 9, 282429536481L, 1000000000000L);
        luck("twelve of twelve", 5, 1, 4096);
        luck("twelve of twelve", 10, 1, 1);
        luck("twelve of twelve", 0, 0, 1);
        one(0, 1, 11, 1, 12);
        luck("one of twelve", 1, 717570463519L, 1000000000000L);
        luck("one of twelve", 0, 0, 1);
        one(0, 1, 12, 1, 12);
        luck("none of twelve", 0, 1, 1);
        one(0, 10, 0, 5, 2);
        luck("the first brings both", 3, 3, 10);
        one(0, 99, 9999, 99, 12);
        luck("a full purse", 0, 1, 1);
        luck("a full purse", 7, 1, 1);
    }

    /** "(he is STEADY, the others' LOANS and his other ones aside)": whatever he is, in whatever month; what was given is. */
    static void luckOfAKind() {
        for (int kind = 0; kind < 6; kind++) {
            one(kind, 1, 59, 60, 1);
            luck("kind " + kind, 10, 1, 1);
            luck("kind " + kind, 1, 1, 10);
            one(kind, 0, 60, 60, 1);
            luck("kind " + kind, 0, 1, 1);
            x.loan(0, 60, 1);
            x.person(0, 0, 0);
            x.loan(1, 9, 9);
            luck("other loans beside, kind " + kind, 0, 1, 1);
            fresh();
            x.person(kind, 0, 0);
            x.pass(6);
            x.loan(0, 1, 1);
            // By then a gleaner has 12, and nobody else anything.
            luck("no 60 and no 2, kind " + kind, 10, kind == 3 ? 1 : 0, 1);
        }
        one(0, 1, 2, 1, 3);
        x.pass(2);
        // 2 are left, one is to be given.
        luck("given twice of three", 0, 1, 1);
        one(0, 0, 2, 1, 4);
        luck("four of two", 10, 0, 1);
        x.pass(2);
        luck("two of none", 10, 0, 1);
    }

    /** One who gets 5 and is to give 5 in the first month: had, unless it is dry. */
    static void firstDraw(int seed, int draw) {
        one(0, 5, 0, 5, 1);
        for (int w : new int[] {draw, draw + 1}) {
            due("drawn " + seed + " by " + w + ": had", x.drawn(seed, w, 1, 0), w > draw ? 0 : 1);
            due("drawn " + seed + " by " + w + ": holes", x.drawn(seed, w, 1, 1), w > draw ? 1 : 0);
        }
        due("drawn " + seed + " by 0", x.drawn(seed, 0, 1, 0), 1);
        due("drawn " + seed + " by 100", x.drawn(seed, 100, 1, 1), 1);
        due("no months, no draw", x.drawn(seed, 100, 0, 0) + x.drawn(seed, 100, 0, 1), 0);
    }

    /** "DRAWN by a SEED (0 .. 999999), w (0 .. 100) .. less than w: no MEANS come to him" */
    static void drawn() {
        firstDraw(0, 0);
        firstDraw(1, 38);
        firstDraw(7, 64);
        firstDraw(194, 99);
        firstDraw(132, 0);
        firstDraw(999998, 90);
        firstDraw(999999, 28);
        due("99 is not less than 99", drawnOne(194, 99), 1);
        // Six in one month; 999999 draws 28, 58, 83, 39, 82, 53.
        fresh();
        for (int p = 0; p < 6; p++) x.person(0, 1, 0);
        for (int l = 0; l < 6; l++) x.loan(l, 1, 1);
        int[][] six = {{28, 6}, {29, 5}, {39, 5}, {40, 4}, {53, 4}, {54, 3}, {58, 3}, {59, 2}, {82, 2}, {83, 1}, {84, 0}};
        for (int[] w : six) {
            due("six by " + w[0], x.drawn(999999, w[0], 1, 0), w[1]);
            due("six by " + w[0], x.drawn(999999, w[0], 1, 1), 6 - w[1]);
        }
        drawnOn();
    }

    static int drawnOne(int seed, int w) {
        one(0, 5, 0, 5, 1);
        return x.drawn(seed, w, 1, 0);
    }

    /** "in each MONTH, for each PERSON in order": also for one without means or loans, and from one month to the next. */
    static void drawnOn() {
        // 2522 draws 48 81, 85 96, 16 53, 45 97, 30 57, 56 89, 35 78, 91 42, ..: the second one of two is dry in the eighth month first.
        fresh();
        x.person(1, 0, 0);
        x.person(0, 1, 0);
        x.loan(1, 1, 12);
        due("seven months", x.drawn(2522, 50, 7, 1), 0);
        due("the eighth", x.drawn(2522, 50, 8, 1), 1);
        due("the eighth by 42", x.drawn(2522, 42, 8, 1), 0);
        due("the eighth by 43", x.drawn(2522, 43, 8, 1), 1);
        // The first one of two is dry at once.
        fresh();
        x.person(0, 1, 0);
        x.person(0, 0, 0);
        x.loan(0, 1, 12);
        due("48 is less than 50", x.drawn(2522, 50, 1, 1), 1);
        due("48 is not less than 48", x.drawn(2522, 48, 1, 1), 0);
        due("16 is less than 17", x.drawn(2522, 17, 3, 1), 1);
        due("16 is not less than 16", x.drawn(2522, 16, 3, 1), 0);
        // 60 months, none of them dry: as foretold.
        x = Towns.full();
        due("none dry: had", x.drawn(5, 0, 60, 0), x.foretold(60, 2));
        due("none dry: holes", x.drawn(5, 0, 60, 1), x.foretold(60, 3));
    }

    /** "h = 839; then h = 31 h + v for each v", of each part of the town in its order; it wraps around. */
    static void digestOf(BackLoans b, int... offersAndFraction) {
        long h = 839;
        for (int what = 0; what < 9; what++) h = 31 * h + b.count(what);
        for (int p = 0; p < b.count(3); p++) for (int what = 0; what < 3; what++) h = 31 * h + b.whose(p, what);
        for (int l = 0; l < b.count(4); l++) for (int what = 0; what < 5; what++) h = 31 * h + b.about(l, what);
        for (int v : offersAndFraction) h = 31 * h + v;
        due("digest", b.digest(), h);
    }

    static void digest() {
        digestOf(Towns.empty(), 0, 1);
        digestOf(Towns.mixed(), 3, 4, 9, 9, 9, 100);
        digestOf(Towns.alike(), 9, 100);
        digestOf(Towns.full(), 1, 12, 2, 11, 3, 10, 4, 9, 5, 8, 6, 7, 7, 6, 8, 5, 9, 100);
    }

    public static void main(String[] args) {
        foretoldIsWhatComes();
        firstLack();
        holds();
        bestHasRoom();
        bestIsBorne();
        bestOfLikeOnes();
        bestInOrder();
        bestHarmsNoOther();
        joins();
        runs();
        wills();
        whom();
        price();
        luck();
        luckOfAKind();
        drawn();
        digest();
        end("edges of what is foretold: all answers are as due");
    }
}
