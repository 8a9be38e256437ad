/** For each promise of the document ordinary calls, the edges that it names, and what is refused; all answers worked out by hand. */
public final class PromiseTest extends Checks {
    static void town(String s, int items) {
        type(s);
        due("read " + s, x.read(), items);
    }

    /** A fault: all stays, STATUS too. */
    static void fault(String s, int place) {
        type(s);
        long[] was = before();
        refused("read " + s, was, x.read(), -10 - place, -1);
    }

    static void p01NewObject() {
        fresh();
        for (int what = 0; what <= 8; what++) due("new: count " + what, x.count(what), 0);
        for (int what = 0; what <= 2; what++) due("new: status " + what, x.status(what), 0);
        due("new: above", x.part(0), 0);
        due("new: below", x.part(1), 1);
        due("new: from 0", x.from(0), NO);
        due("new: undo", x.undo(), NO);
        due("constants", BackLoans.NONE * 1000 + BackLoans.BAD * 100 + BackLoans.NO * 10 + BackLoans.FULL, -1234);
    }

    static void p02Chest() {
        fresh();
        due("chest", x.chest(99999), 0);
        due("chest", x.chest(0), 99999);
        due("chest", x.chest(7), 0);
        bad("chest -1", before(), x.chest(-1));
        bad("chest 100000", before(), x.chest(100000));
        due("count 0", x.count(0), 7);
    }

    static void p03Rate() {
        fresh();
        due("rate", x.rate(50), 0);
        due("rate", x.rate(0), 50);
        due("rate", x.rate(3), 0);
        bad("rate 51", before(), x.rate(51));
        bad("rate -1", before(), x.rate(-1));
        due("count 1", x.count(1), 3);
    }

    static void p04Person() {
        fresh();
        due("person", x.person(0, 0, 0), 0);
        due("person", x.person(5, 99, 9999), 1);
        bad("person kind", before(), x.person(-1, 0, 0));
        bad("person kind", before(), x.person(6, 0, 0));
        bad("person means", before(), x.person(0, -1, 0));
        bad("person means", before(), x.person(0, 100, 0));
        bad("person purse", before(), x.person(0, 0, -1));
        bad("person purse", before(), x.person(0, 0, 10000));
        for (int i = 2; i < 6; i++) due("person", x.person(1, 2, 3), i);
        full("7th person", before(), x.person(0, 0, 0));
        bad("BAD ahead of FULL", before(), x.person(6, 0, 0));
        due("people", x.count(3), 6);
    }

    static void p05Loan() {
        fresh();
        bad("loan of nobody", before(), x.loan(0, 1, 1));
        x.person(0, 0, 0);
        due("loan", x.loan(0, 1, 1), 0);
        due("loan", x.loan(0, 99, 12), 1);
        bad("loan person", before(), x.loan(1, 1, 1));
        bad("loan person", before(), x.loan(-1, 1, 1));
        bad("loan pence", before(), x.loan(0, 0, 1));
        bad("loan pence", before(), x.loan(0, 100, 1));
        bad("loan months", before(), x.loan(0, 1, 0));
        bad("loan months", before(), x.loan(0, 1, 13));
        for (int i = 2; i < 8; i++) due("loan", x.loan(0, 2, 2), i);
        full("9th loan", before(), x.loan(0, 1, 1));
        bad("BAD ahead of FULL", before(), x.loan(0, 0, 1));
        due("loans", x.count(4), 8);
    }

    static void p06Offer() {
        fresh();
        due("offer", x.offer(1, 1), 0);
        due("offer", x.offer(99, 12), 1);
        bad("offer pence", before(), x.offer(0, 1));
        bad("offer pence", before(), x.offer(100, 1));
        bad("offer months", before(), x.offer(1, 0));
        bad("offer months", before(), x.offer(1, 13));
        for (int i = 2; i < 8; i++) due("offer", x.offer(5, 5), i);
        full("9th offer", before(), x.offer(1, 1));
        bad("BAD ahead of FULL", before(), x.offer(0, 1));
        due("offers", x.count(5), 8);
    }

    static void p07None() {
        fresh();
        due("none", x.none(), 0);
        x.offer(1, 1);
        x.offer(2, 2);
        due("none", x.none(), 2);
        due("offers", x.count(5), 0);
        due("offer again", x.offer(3, 3), 0);
    }

    static void p08Type() {
        fresh();
        due("type 0", x.type(0), 1);
        due("type 127", x.type(127), 2);
        bad("type -1", before(), x.type(-1));
        bad("type 128", before(), x.type(128));
        for (int i = 3; i <= 150; i++) due("type", x.type(32), i);
        full("type 151st", before(), x.type(32));
        bad("BAD ahead of FULL", before(), x.type(128));
        due("bytes", x.count(8), 150);
    }

    static void p09Clear() {
        fresh();
        due("clear", x.clear(), 0);
        type("chest");
        due("clear", x.clear(), 5);
        due("bytes", x.count(8), 0);
        due("type", x.type(65), 1);
    }

    static void p10Read() {
        fresh();
        x.person(0, 1, 2);
        x.loan(0, 1, 3);
        x.chest(77);
        x.rate(9);
        x.offer(4, 4);
        x.pass(2);
        faults();
        town("chest 5;", 1);
        int[] left = {5, 0, 0, 0, 0, 0, 0, 0, 8};
        for (int what = 0; what <= 8; what++) due("read: count " + what, x.count(what), left[what]);
        due("nothing to undo", x.undo(), NO);
        town("  chest  00012 ; rate 50;rate 7;person 5 99 9999;person 3 0 0;loan 1 99 12;loan 0 1 1;offer 99 12;  ", 8);
        due("last rate", x.count(1), 7);
        due("kind", x.whose(1, 0), 3);
        due("means", x.whose(0, 1), 99);
        due("purse", x.whose(0, 2), 9999);
        due("owner", x.about(0, 0), 1);
        due("pence", x.about(0, 1), 99);
        due("long", x.about(1, 2), 1);
        due("runs", x.about(1, 3), RUNS);
        due("offers", x.count(5), 1);
        town("chest 99999;", 1);
        town("chest 1;" + " ".repeat(142), 1);
        town("chest 1;" + " ".repeat(141) + ";", -10 - 149);
        town("chest 0;rate 0;", 2);
        town("chest12;person0 1 2;", 2);
        due("chest", x.count(0), 12);
    }

    static void faults() {
        // What an earlier, longer text had there does not count.
        type("chest 1;rate 51;");
        fault("chest 1;rate 5", 14);
        type("chest 1  ;");
        fault("chest 1", 7);
        type("chests");
        fault("chest", 5);
        fault("chest 1;" + " ".repeat(141) + "x", 149);
        fault("chest 1;" + "rate 1;".repeat(20) + "ra", 148);
        fault("chest " + " ".repeat(143) + "1", 150);
        fault("chest 1" + " ".repeat(143), 150);
        fault("", 0);
        fault("   ", 3);
        fault("chest", 5);
        fault("chest ", 6);
        fault("chest 1", 7);
        fault("chest 1 ", 8);
        fault("chest 1;person 1 2", 18);
        fault("chest 1;rate", 12);
        fault("ches 1;", 0);
        fault(" chests 1;", 1);
        fault("khest 1;", 0);
        fault("chest 1;ratez 5;", 8);
        fault("rate 1;chest 1;", 0);
        fault("5;", 0);
        fault(";", 0);
        fault("chest 1;;", 8);
        fault("chest 1;chest 1;", 8);
        fault("chest 1;bank 1;", 8);
        fault("chest 1;Rate 1;", 8);
        fault("chest 1;rAte 1;", 8);
        fault("chest 1;7;", 8);
        fault("chest ;", 6);
        fault("chest x;", 6);
        fault("chest -1;", 6);
        fault("chest 1 2;", 8);
        fault("chest 1x;", 7);
        fault("chest 000000;", 6);
        fault("chest 1;rate 51;", 13);
        fault("chest 1;rate 1,;", 14);
        fault("chest\t1;", 5);
        fault("chest 1;person 6 0 0;", 15);
        fault("chest 1;person 0 100 0;", 17);
        fault("chest 1;person 0 0 10000;", 19);
        fault("chest 1;loan 0 1 1;", 13);
        fault("chest 1;person 0 0 0;loan 1 1 1;", 26);
        fault("chest 1;person 0 0 0;loan 0 0 1;", 28);
        fault("chest 1;person 0 0 0;loan 0 100 1;", 28);
        fault("chest 1;person 0 0 0;loan 0 1 0;", 30);
        fault("chest 1;person 0 0 0;loan 0 1 13;", 30);
        fault("chest 1;offer 0 1;", 14);
        fault("chest 1;offer 1 13;", 16);
        fault("chest 1;" + "person 0 0 0;".repeat(7), 8 + 6 * 13);
        fault("chest 1;person 0 0 0;" + "loan 0 1 1;".repeat(9), 21 + 8 * 11);
        fault("chest 1;" + "offer 1 1;".repeat(8) + "offer", 88);
    }

    static void p11Pass() {
        fresh();
        bad("pass 0", before(), x.pass(0));
        bad("pass 13", before(), x.pass(13));
        due("pass of nobody", x.pass(12), 0);
        due("month", x.count(2), 12);
        kinds();
        holesAndLacks();
        fullPursesAndChest();
        misers();
    }

    /** Purses behind each month, without loans. */
    static void kinds() {
        fresh();
        x.person(0, 10, 0);
        x.person(1, 10, 0);
        x.person(2, 10, 41);
        x.person(3, 10, 0);
        x.person(4, 10, 40);
        x.person(5, 10, 0);
        x.pass(1);
        purses("month 0", 10, 0, 25, 2, 50, 10);
        x.pass(1);
        purses("month 1", 20, 10, 35, 14, 30, 20);
        x.pass(1);
        purses("month 2", 30, 20, 45, 26, 40, 30);
        x.pass(1);
        purses("month 3", 40, 20, 27, 28, 50, 40);
        x.pass(3);
        // The heir: 60 -> 30, 40, and in month 6: 40 + 10 + 60 = 110 -> 55.
        purses("month 6", 70, 40, 28, 54, 55, 70);
        x.pass(12);
        due("month", x.count(2), 19);
        fresh();
        x.person(4, 0, 41);
        x.pass(6);
        purses("an heir ahead of month 6", 41);
        x.pass(1);
        purses("101 less 51", 50);
        x.pass(11);
        purses("50 is not above 50", 50);
        x.pass(1);
        purses("month 18: 110 less 55", 55);
    }

    static void holesAndLacks() {
        fresh();
        x.person(0, 5, 5);
        x.person(0, 0, 10);
        x.loan(0, 10, 2);
        x.loan(1, 5, 2);
        x.loan(1, 1, 3);
        x.rate(50);
        due("pass", x.pass(1), 0);
        purses("first", 0, 4);
        due("chest", x.count(0), 16);
        due("pass", x.pass(1), 0);
        // 5 < 10 and 4 < 5 are holes; 1 of 3 goes on.
        due("hole", x.about(0, 3), HOLE);
        due("hole", x.about(1, 3), HOLE);
        due("runs", x.about(2, 3), RUNS);
        due("given", x.about(2, 4), 2);
        x.chest(3);
        // The third is given: 4 in the chest, the whole is 3 and half of 3, cut: 4.
        due("pass", x.pass(1), 1);
        due("had", x.about(2, 3), HAD);
        due("chest", x.count(0), 0);
        purses("had", 10, 6);
        x.loan(0, 2, 1);
        due("pass", x.pass(2), 0);
        due("owed", x.about(3, 3), OWED);
        due("lacks", x.count(6), 2);
        x.rate(0);
        due("rate as it is when it is paid", x.pass(1), 1);
        due("chest", x.count(0), 0);
        due("lacks", x.count(6), 2);
        due("a hole stays one", x.about(0, 3), HOLE);
    }

    static void fullPursesAndChest() {
        fresh();
        x.person(0, 99, 9999);
        x.loan(0, 99, 1);
        x.chest(99999);
        x.rate(10);
        due("pass", x.pass(1), 1);
        // 9999 - 99 = 9900, chest stays 99999, whole 99 + 9 = 108: 9999 at most.
        due("purse", x.whose(0, 2), 9999);
        due("chest", x.count(0), 99891);
        fresh();
        x.person(2, 99, 9999);
        x.pass(1);
        due("full ahead of spending", x.whose(0, 2), 4999);
    }

    static void misers() {
        fresh();
        x.person(5, 0, 20);
        x.person(5, 0, 19);
        x.loan(0, 10, 12);
        x.loan(1, 10, 12);
        x.pass(1);
        due("miser gives", x.about(0, 4), 1);
        due("miser does not", x.about(1, 3), HOLE);
        purses("misers", 10, 19);
        x.pass(1);
        due("miser stops", x.about(0, 3), HOLE);
    }

    /** Loans 0, 1, 2 of 4 pence and 5 months, given 2, 3, 1 times, holes; 3 of 4 and 6; 4 of 3 and 5; chest 9. */
    static void holes() {
        fresh();
        x.person(0, 0, 8);
        x.person(0, 0, 12);
        x.person(0, 0, 4);
        x.loan(0, 4, 5);
        x.loan(1, 4, 5);
        x.loan(2, 4, 5);
        x.pass(4);
        x.loan(2, 4, 6);
        x.loan(2, 3, 5);
        x.pass(1);
        x.chest(9);
    }

    static void p12Join() {
        holes();
        bad("join alike", before(), x.join(0, 0));
        bad("join", before(), x.join(0, 5));
        bad("join", before(), x.join(-1, 0));
        no("another long", before(), x.join(0, 3));
        no("other pence", before(), x.join(0, 4));
        due("join still a hole", x.join(2, 0), HOLE);
        due("given", x.about(2, 4), 3);
        due("gone", x.about(0, 3), GONE);
        no("gone", before(), x.join(2, 0));
        due("join", x.join(2, 1), OWED);
        due("long at most", x.about(2, 4), 5);
        no("owed", before(), x.join(2, 3));
        due("gone", x.about(1, 3), GONE);
        due("may be undone", x.count(7), 7);
        due("lacks: 9 is less than 20", x.pass(1), 0);
        due("lacks", x.count(6), 1);
        x.chest(20);
        due("had", x.pass(1), 1);
        due("paid to the first one's", x.whose(2, 2), 20);
        fresh();
        x.person(0, 9, 9);
        x.loan(0, 1, 2);
        x.loan(0, 1, 2);
        no("they run", before(), x.join(0, 1));
    }

    static void p13Sell() {
        fresh();
        x.person(0, 0, 30);
        x.person(0, 0, 10);
        x.person(0, 0, 9999);
        x.loan(0, 20, 2);
        x.loan(1, 10, 1);
        bad("sell loan", before(), x.sell(2, 1, 0));
        bad("sell to", before(), x.sell(0, 3, 0));
        bad("sell price", before(), x.sell(0, 1, -1));
        bad("sell price", before(), x.sell(0, 1, 10000));
        bad("to himself", before(), x.sell(0, 0, 0));
        no("has less", before(), x.sell(0, 1, 11));
        due("sell", x.sell(0, 1, 10), 0);
        purses("sold", 40, 0, 9999);
        due("whose", x.about(0, 0), 1);
        bad("to himself now", before(), x.sell(0, 1, 0));
        due("more is lost", x.sell(1, 2, 0), 1);
        x.sell(1, 0, 0);
        due("may be undone", x.count(7), 3);
        x.pass(1);
        due("a hole by the poor one", x.about(0, 3), HOLE);
        due("had", x.about(1, 3), HAD);
        no("had", before(), x.sell(1, 1, 0));
        bad("BAD ahead of NO", before(), x.sell(1, 0, 0));
        due("a hole is sold", x.sell(0, 2, 1), 1);
        due("sell to and fro", x.sell(0, 1, 1), 2);
        x.person(0, 0, 5);
        x.loan(2, 50, 12);
        due("full purse", x.sell(2, 3, 5), 2);
        purses("sold", 40, 0, 9999, 0);
    }

    static void p14Undo() {
        fresh();
        no("undo", before(), x.undo());
        x.person(0, 3, 10);
        x.loan(0, 5, 4);
        x.chest(50);
        x.pass(3);
        due("may be undone", x.count(7), 3);
        x.chest(1);
        x.rate(20);
        x.person(0, 7, 9);
        x.loan(1, 2, 3);
        x.offer(1, 1);
        due("undo", x.undo(), 1);
        due("month", x.count(2), 2);
        due("chest", x.count(0), 60);
        due("the rate stays", x.count(1), 20);
        due("offers stay", x.count(5), 1);
        due("purse", x.whose(0, 2), 6);
        due("who came since", x.whose(1, 2), 9);
        due("what came since", x.about(1, 3), RUNS);
        due("what came since", x.about(1, 0), 1);
        due("given", x.about(0, 4), 2);
        due("sell", x.sell(0, 1, 4), 0);
        due("undo", x.undo(), 1);
        due("his again", x.about(0, 0), 0);
        purses("unsold", 6, 9);
        x.undo();
        x.undo();
        due("month", x.count(2), 0);
        due("given", x.about(0, 4), 0);
        purses("at first", 10, 9);
        no("undo", before(), x.undo());
        x.pass(12);
        due("8 at most", x.count(7), 8);
        for (int i = 0; i < 8; i++) {
            due("undo", x.undo(), 1);
            due("month", x.count(2), 11 - i);
        }
        no("undo", before(), x.undo());
        holes();
        x.join(1, 0);
        x.undo();
        due("hole", x.about(0, 3), HOLE);
        due("hole", x.about(1, 3), HOLE);
        due("given", x.about(1, 4), 3);
        fresh();
        x.person(0, 0, 1);
        x.loan(0, 1, 1);
        x.rate(0);
        x.pass(1);
        x.undo();
        due("not had", x.about(0, 3), RUNS);
        x.rate(50);
        x.loan(0, 2, 1);
        x.person(0, 0, 2);
        x.sell(1, 1, 0);
        x.pass(1);
        // 1 and 2 come in, 1 is paid, 3 are not there.
        due("owed", x.about(1, 3), OWED);
        fresh();
        x.person(0, 0, 2);
        x.loan(0, 2, 1);
        x.rate(50);
        x.pass(3);
        x.pass(1);
        x.loan(0, 50, 1);
        due("lacks", x.count(6), 4);
        x.chest(3);
        x.pass(1);
        due("lacks no more", x.count(6), 4);
        x.undo();
        x.undo();
        due("lacks undone", x.count(6), 3);
        fresh();
        x.pass(2);
        x.person(0, 0, 1);
        x.loan(0, 1, 1);
        x.rate(50);
        x.chest(0);
        x.loan(0, 99, 12);
        x.pass(1);
        due("lacks", x.count(6), 0);
        x.undo();
        due("lacks, not months", x.count(6), 0);
        due("month", x.count(2), 2);
        fresh();
        x.person(0, 7, 1);
        x.person(0, 8, 2);
        x.pass(1);
        purses("passed", 8, 10);
        x.undo();
        purses("undone without loans", 1, 2);
    }

    static void p15Whose() {
        fresh();
        bad("whose", before(), x.whose(0, 0));
        x.person(4, 33, 44);
        due("kind", x.whose(0, 0), 4);
        due("means", x.whose(0, 1), 33);
        due("purse", x.whose(0, 2), 44);
        bad("whose what", before(), x.whose(0, 3));
        bad("whose what", before(), x.whose(0, -1));
        bad("whose", before(), x.whose(-1, 0));
        bad("whose", before(), x.whose(1, 0));
    }

    static void p16About() {
        fresh();
        bad("about", before(), x.about(0, 0));
        x.person(0, 99, 0);
        x.person(0, 99, 0);
        x.loan(1, 33, 7);
        int[] want = {1, 33, 7, 0, 0, 231};
        for (int what = 0; what <= 5; what++) due("about " + what, x.about(0, what), want[what]);
        x.rate(3);
        due("whole 231 and 6.93", x.about(0, 5), 237);
        x.pass(2);
        due("given", x.about(0, 4), 2);
        bad("about what", before(), x.about(0, 6));
        bad("about what", before(), x.about(0, -1));
        bad("about", before(), x.about(1, 0));
        bad("about", before(), x.about(-1, 0));
    }

    /** One gives 10 four times, one 6 twice; rate 50: wholes 60 and 18; a third stops at once. */
    static void three() {
        fresh();
        x.person(0, 10, 5);
        x.person(0, 6, 0);
        x.person(0, 0, 3);
        x.loan(0, 10, 4);
        x.loan(1, 6, 2);
        x.loan(2, 4, 2);
        x.rate(50);
    }

    static void p17Foretold() {
        three();
        long was = x.digest();
        int[][] want = {{0, 0, 0, 0, 0}, {16, 0, 0, 1, 0}, {14, 0, 1, 1, 0}, {24, 0, 1, 1, 0}, {34, 1, 1, 1, 1}, {34, 2, 1, 1, 1}};
        for (int m = 0; m < want.length; m++) {
            for (int what = 0; what <= 4; what++) due("foretold " + m + " " + what, x.foretold(m, what), want[m][what]);
        }
        due("foretold 60", x.foretold(60, 1), 57);
        due("nothing is changed", x.digest(), was);
        bad("foretold", before(), x.foretold(-1, 0));
        bad("foretold", before(), x.foretold(61, 0));
        bad("foretold", before(), x.foretold(0, -1));
        bad("foretold", before(), x.foretold(0, 5));
        x.pass(5);
        due("lacks in all months", x.foretold(1, 1), 3);
    }

    static void p18Purse() {
        three();
        int[] want = {0, 0, 18, 24};
        for (int m = 0; m < 4; m++) due("purse " + m, x.purse(m, 1), want[m]);
        due("purse 60", x.purse(60, 0), 5 + 600 - 40);
        bad("purse", before(), x.purse(61, 0));
        bad("purse", before(), x.purse(-1, 0));
        bad("purse", before(), x.purse(0, 3));
        bad("purse", before(), x.purse(0, -1));
    }

    static void p19LoanThen() {
        three();
        due("then", x.loanThen(0, 1, 0), RUNS);
        due("then", x.loanThen(1, 1, 1), 1);
        due("then", x.loanThen(2, 1, 0), HAD);
        due("then", x.loanThen(60, 1, 1), 2);
        due("then", x.loanThen(3, 0, 1), 3);
        due("then", x.loanThen(4, 0, 0), OWED);
        due("then", x.loanThen(1, 2, 0), HOLE);
        bad("then", before(), x.loanThen(61, 0, 0));
        bad("then", before(), x.loanThen(-1, 0, 0));
        bad("then", before(), x.loanThen(0, 3, 0));
        bad("then", before(), x.loanThen(0, -1, 0));
        bad("then", before(), x.loanThen(0, 0, 2));
        bad("then", before(), x.loanThen(0, 0, -1));
    }

    static void p20Lack() {
        three();
        due("lack 0", x.lack(0), NONE);
        due("lack 3", x.lack(3), NONE);
        due("lack 4", x.lack(4), 3);
        due("lack 60", x.lack(60), 3);
        x.pass(1);
        due("lack from now", x.lack(60), 2);
        x.pass(4);
        due("lack at once", x.lack(1), 0);
        x.chest(26);
        due("lack none more", x.lack(60), 0);
        x.chest(60);
        due("lacks that were are none", x.lack(60), NONE);
        bad("lack", before(), x.lack(61));
        bad("lack", before(), x.lack(-1));
    }

    static void p21Holds() {
        three();
        due("holds 0", x.holds(0), 0);
        due("holds 3", x.holds(3), 0);
        due("holds 4: 34 less 60", x.holds(4), 26);
        due("holds 60", x.holds(60), 26);
        x.chest(99999);
        due("holds, whatever there is", x.holds(60), 26);
        x.pass(4);
        due("nothing owed any more", x.holds(60), 0);
        bad("holds", before(), x.holds(61));
        bad("holds", before(), x.holds(-1));
        fresh();
        x.rate(50);
        x.person(0, 99, 9999);
        for (int l = 0; l < 8; l++) x.loan(0, 99, 12);
        x.pass(10);
        // 8 wholes of 1782, of which 2 times 8 times 99 come in yet: 12672 would be needed.
        due("no chest holds", x.holds(2), NONE);
        due("till then all do", x.holds(1), 0);
        fresh();
        x.rate(50);
        x.person(0, 99, 9999);
        for (int l = 0; l < 7; l++) x.loan(0, 99, 12);
        x.pass(9);
        // 7 * 1782 - 3 * 7 * 99
        due("more than may be", x.holds(3), NONE);
        x.undo();
        due("9702 do: 4 * 7 * 99 come", x.holds(4), 9702);
    }

    static void p22Best() {
        fresh();
        bad("best of nobody", before(), x.best(0, 0));
        x.person(0, 10, 0);
        x.person(0, 0, 5);
        x.loan(1, 5, 1);
        x.rate(20);
        due("no offers", x.best(0, 0), 0);
        due("no offers", x.best(0, 1), 0);
        x.offer(5, 4);
        x.offer(6, 4);
        x.offer(4, 5);
        x.offer(11, 1);
        // 4 and 4.8 and 4: 6 and 4 can be borne, 11 not, 5 and 6 not.
        due("best", x.best(0, 0), 8);
        due("best: of like ones the least", x.best(0, 1), 5);
        x.person(0, 11, 0);
        due("bears 5 and 6", x.best(2, 1), 3);
        due("nobody's means bear none", x.best(1, 0), 0);
        due("none of them", x.best(1, 1), 0);
        bad("best what", before(), x.best(0, 2));
        bad("best what", before(), x.best(0, -1));
        bad("best", before(), x.best(3, 0));
        bad("best", before(), x.best(-1, 0));
        bestWithOthers();
        bestInRoom();
        fresh();
        x.rate(50);
        x.person(0, 0, 11);
        x.person(0, 0, 12);
        x.offer(1, 12);
        due("a hole in the twelfth month", x.best(0, 1), 0);
        due("none", x.best(1, 1), 1);
    }

    /** A loan that comes behind must make no hole of one that runs; holes that are there anyway do no harm. */
    static void bestWithOthers() {
        fresh();
        x.rate(50);
        x.person(0, 10, 0);
        x.loan(0, 6, 12);
        x.offer(5, 2);
        x.offer(4, 2);
        due("best", x.best(0, 1), 2);
        x.person(0, 0, 0);
        x.loan(1, 99, 1);
        due("another's hole aside", x.best(0, 1), 2);
        fresh();
        x.rate(50);
        x.person(0, 6, 4);
        x.loan(0, 6, 12);
        x.offer(4, 1);
        x.offer(4, 2);
        // 4 are spare once; that it is had in the first month at 6 of a chest of 10 does not harm.
        due("best once", x.best(0, 1), 1);
        x.none();
        x.offer(2, 3);
        // 2 and 2 are spare, the third time 0 is left: it is a hole.
        due("best none", x.best(0, 1), 0);
        fresh();
        x.rate(50);
        x.person(0, 10, 9);
        x.loan(0, 10, 12);
        x.offer(9, 2);
        due("a hole that comes from it", x.best(0, 1), 0);
        fresh();
        x.rate(50);
        x.person(0, 0, 5);
        x.person(0, 0, 0);
        x.loan(0, 1, 12);
        x.offer(2, 1);
        // The other loan is a hole with it and without it.
        due("no more holes than without", x.best(0, 1), 1);
    }

    static void bestInRoom() {
        fresh();
        x.rate(10);
        x.person(0, 99, 0);
        for (int l = 0; l < 6; l++) x.loan(0, 1, 12);
        for (int o = 0; o < 8; o++) x.offer(10, 1);
        due("room for 2", x.best(0, 0), 2);
        due("room for 2", x.best(0, 1), 3);
        x.loan(0, 1, 1);
        x.loan(0, 1, 1);
        due("no room", x.best(0, 1), 0);
        x.rate(9);
        due("no gain", x.best(0, 0), 0);
    }

    static void p23Joins() {
        fresh();
        due("joins", x.joins(), NONE);
        holes();
        // 2 + 3 of 5.
        due("joins", x.joins(), 3);
        x.join(2, 0);
        // 3 + 3 of 5, the gone one aside.
        due("joins", x.joins(), 6);
        x.join(1, 2);
        due("joins", x.joins(), NONE);
        fresh();
        int[] purse = {2, 2, 3, 1, 1, 3};
        for (int p = 0; p < 6; p++) x.person(0, 0, purse[p]);
        for (int l = 0; l < 6; l++) x.loan(l, 1, 6);
        x.pass(6);
        due("3 and 3 are fewer than 2 and 2 and 3", x.joins(), 1 << 2 | 1 << 5);
        x.sell(5, 0, 0);
        due("whose does not matter", x.joins(), 1 << 2 | 1 << 5);
        fresh();
        for (int p = 0; p < 4; p++) x.person(0, 0, 4);
        for (int l = 0; l < 4; l++) x.loan(l, 2, 4);
        x.pass(6);
        due("of like ones the least", x.joins(), 3);
        fresh();
        for (int p = 0; p < 3; p++) x.person(0, 0, 2);
        for (int l = 0; l < 3; l++) x.loan(l, 1, 5);
        x.pass(6);
        due("three", x.joins(), 7);
    }

    static void p24Run() {
        fresh();
        due("run of nobody", x.run(0), 0);
        due("run of nobody", x.run(3), 0);
        x.person(0, 50, 0);
        x.person(0, 0, 6);
        x.loan(0, 10, 5);
        x.loan(0, 7, 5);
        x.loan(1, 3, 5);
        x.loan(0, 5, 2);
        x.rate(50);
        x.pass(1);
        x.chest(0);
        x.pass(1);
        x.loan(0, 9, 9);
        x.chest(20);
        // Wanted: 20, 14, 6; nothing by the one that is had, nor by the new one.
        due("given", x.about(2, 4), 2);
        due("had", x.about(3, 3), HAD);
        due("run 0", x.run(0), 1);
        due("run 1", x.run(1), 0);
        due("run 2", x.run(2), 2);
        due("run 3", x.run(3), 20);
        x.chest(19);
        due("14 is paid, 6 not", x.run(0), 1);
        due("left", x.run(1), 5);
        due("6 alone or 14", x.run(2), 1);
        x.chest(40);
        due("all", x.run(0), 3);
        due("left", x.run(1), 0);
        due("stays", x.run(3), 0);
        fresh();
        x.person(0, 9, 0);
        x.loan(0, 1, 3);
        x.loan(0, 2, 3);
        x.pass(1);
        x.chest(2);
        due("1 of 2", x.run(0), 1);
        due("left", x.run(1), 1);
        due("the least first", x.run(2), 1);
        x.chest(1);
        due("a penny", x.run(2), 1);
        due("a penny", x.run(0), 1);
        x.chest(3);
        due("all in the best order", x.run(2), 2);
        bad("run", before(), x.run(4));
        bad("run", before(), x.run(-1));
        fresh();
        x.person(0, 0, 12);
        x.loan(0, 8, 1);
        x.loan(0, 2, 3);
        x.rate(50);
        x.pass(1);
        x.chest(5);
        // Owed: it wants 12; the other 2.
        due("owed", x.about(0, 3), OWED);
        due("run 3", x.run(3), 9);
        due("run 0", x.run(0), 1);
        due("run 1", x.run(1), 3);
        x.chest(14);
        due("run 1", x.run(1), 0);
        x.pass(3);
        x.chest(1);
        // The first one is had, the other owed: it wants 9.
        due("run 0", x.run(0), 0);
        due("run 1", x.run(1), 1);
        due("run 2", x.run(2), 0);
        due("run 3", x.run(3), 8);
    }

    static void p25Will() {
        fresh();
        refused("will of nobody", before(), x.will(0, 0, NONE), -10, 0);
        x.person(0, 99, 999);
        x.person(0, 0, 0);
        x.person(0, 0, 0);
        x.person(0, 0, 0);
        x.person(0, 0, 0);
        refused("nothing left", before(), x.will(0, 6, NONE), 0, -1);
        refused("nothing left", before(), x.will(0, 6, 0), -5, -1);
        int[] pence = {7, 5, 4, 3, 2};
        for (int p : pence) x.loan(0, p, 9);
        x.loan(1, 1, 1);
        x.pass(2);
        // Worth 14, 10, 8, 6, 4 = 42: to two 20 at best, first by 14 + 8 and 10 + 6 + 4, later by 14 + 6 and 10 + 8 + 4.
        due("two", x.will(0, 6, NONE), 20);
        int[] two = {1, 2, 1, 2, 2};
        for (int i = 0; i < 5; i++) due("two: " + i, x.will(0, 6, i), two[i]);
        // To three 14: 14, 10 + 4, 8 + 6.
        due("three", x.will(0, 22, NONE), 14);
        int[] three = {1, 2, 4, 4, 2};
        for (int i = 0; i < 5; i++) due("three: " + i, x.will(0, 22, i), three[i]);
        due("one", x.will(0, 8, NONE), 42);
        due("one", x.will(0, 8, 4), 3);
        refused("not so many", before(), x.will(0, 8, 5), -5, -1);
        refused("not so many", before(), x.will(0, 8, Integer.MAX_VALUE), -5, -1);
        refused("nobody is told", before(), x.will(0, 0, NONE), NONE, -1);
        refused("he himself is", before(), x.will(0, 3, 0), NONE, -1);
        refused("all five", before(), x.will(0, 31, NONE), -10, 0);
        refused("no hole left", before(), x.will(2, 3, NONE), 0, -1);
        refused("four", before(), x.will(0, 30, NONE), -10, 0);
        refused("four, and he himself", before(), x.will(0, 15, NONE), -10, 0);
        refused("one that is not there", before(), x.will(0, 32, NONE), -10, 0);
        refused("heirs", before(), x.will(0, -1, NONE), -10, 0);
        refused("heirs", before(), x.will(0, Integer.MIN_VALUE, NONE), -10, 0);
        refused("i", before(), x.will(0, 6, -2), -10, 0);
        refused("person", before(), x.will(5, 6, 0), -10, 0);
        refused("person", before(), x.will(-1, 6, 0), -10, 0);
        refused("BAD ahead of NONE", before(), x.will(0, 0, -2), -10, 0);
        willOfWhatIsHis();
    }

    /** Had and gone ones are left to nobody, sold ones by who has them. */
    static void willOfWhatIsHis() {
        fresh();
        x.person(0, 0, 6);
        x.person(0, 0, 5);
        x.loan(0, 1, 1);
        x.loan(0, 2, 2);
        x.loan(0, 1, 5);
        x.loan(1, 3, 2);
        x.rate(0);
        due("had", x.pass(1), 1);
        x.chest(0);
        x.rate(50);
        x.pass(1);
        // Loan 1 is owed (given 2 of 2 pence: worth 4), loan 2 a hole or runs, loan 3 a hole (given once).
        due("owed", x.about(1, 3), OWED);
        due("hole", x.about(3, 3), HOLE);
        due("all his", x.will(0, 2, NONE), 4 + x.about(2, 4));
        due("two of them", x.will(0, 2, 2), -5);
        due("sell", x.sell(3, 0, 0), 1);
        due("and the one he bought", x.will(0, 2, NONE), 4 + x.about(2, 4) + 3);
        due("none of the other's", x.will(1, 1, 0), -5);
        refused("both, he himself, too", before(), x.will(0, 3, NONE), NONE, -1);
        // All equal to nobody's good: the first way, all to the least.
        fresh();
        for (int p = 0; p < 4; p++) x.person(0, 0, 0);
        x.loan(3, 1, 1);
        x.loan(3, 1, 1);
        due("nothing is given", x.will(3, 7, NONE), 0);
        due("the first way", x.will(3, 7, 0), 0);
        due("the first way", x.will(3, 6, 1), 1);
    }

    static void p26Whom() {
        fresh();
        due("whom", x.whom(0, 0), 0);
        x.person(0, 99, 0);
        x.loan(0, 5, 2);
        x.loan(0, 2, 5);
        x.loan(0, 10, 1);
        x.loan(0, 2, 5);
        x.rate(50);
        x.chest(100);
        long was = x.digest();
        due("whom 0", x.whom(0, 15), 4);
        due("whom 1", x.whom(1, 15), 1);
        due("whom 2", x.whom(2, 15), 0);
        due("whom 4", x.whom(4, 15), 2 | 8);
        due("another whole", x.whom(4, 14), 0);
        due("any number", x.whom(59, Integer.MIN_VALUE), 0);
        due("any number", x.whom(0, Integer.MAX_VALUE), 0);
        due("nothing is changed", x.digest(), was);
        x.pass(1);
        due("from now", x.whom(0, 15), 1);
        bad("whom", before(), x.whom(60, 15));
        bad("whom", before(), x.whom(-1, 15));
    }

    static void p27Price() {
        fresh();
        bad("price", before(), x.price(0));
        x.person(0, 99, 0);
        x.loan(0, 10, 3);
        due("price", x.price(0), 0);
        x.pass(1);
        due("10 by 3", x.price(0), 3);
        x.pass(1);
        due("20 times 2 by 3", x.price(0), 13);
        x.pass(1);
        due("all", x.price(0), 30);
        x.loan(0, 8, 1);
        due("price", x.price(1), 0);
        x.pass(1);
        due("at once", x.price(1), 8);
        bad("price", before(), x.price(2));
        bad("price", before(), x.price(-1));
    }

    static void chance(String what, int loan, int c, long above, long below) {
        due(what, x.luck(loan, c), 1);
        due(what + ": above", x.part(0), above);
        due(what + ": below", x.part(1), below);
    }

    static void p28Luck() {
        fresh();
        bad("luck", before(), x.luck(0, 0));
        x.person(0, 10, 10);
        x.loan(0, 10, 2);
        chance("one of two", 0, 3, 51, 100);
        chance("never", 0, 0, 0, 1);
        chance("ever", 0, 10, 1, 1);
        x.person(5, 4, 7);
        x.loan(1, 5, 3);
        // 7 and 4j of 15: two of three in all, one of two at least by the second; the first is sure.
        chance("no miser", 1, 5, 1, 2);
        x.person(1, 10, 0);
        x.loan(2, 10, 1);
        x.loan(2, 10, 12);
        chance("no field hand, other loans aside", 2, 1, 1, 10);
        chance("twelve", 3, 9, 282429536481L, 1000000000000L);
        x.person(2, 99, 9999);
        x.loan(3, 99, 12);
        chance("no spender", 4, 0, 1, 1);
        bad("luck c", before(), x.luck(0, 11));
        bad("luck c", before(), x.luck(0, -1));
        bad("luck", before(), x.luck(5, 0));
        bad("luck", before(), x.luck(-1, 0));
        x.pass(1);
        chance("what was given is", 0, 3, 1, 1);
        due("hole", x.about(2, 3), HOLE);
        no("it does not run", before(), x.luck(2, 5));
        bad("BAD ahead of NO", before(), x.luck(2, 11));
    }

    static void p29Drawn() {
        fresh();
        due("nobody", x.drawn(0, 50, 60, 0), 0);
        x.person(0, 5, 0);
        x.person(3, 5, 0);
        x.loan(0, 5, 1);
        x.loan(1, 2, 1);
        due("all dry", x.drawn(0, 100, 1, 1), 2);
        due("all dry", x.drawn(0, 100, 1, 0), 0);
        due("none dry", x.drawn(0, 0, 1, 0), 2);
        due("none dry", x.drawn(0, 0, 1, 1), 0);
        due("no months", x.drawn(0, 100, 0, 1), 0);
        // X: 12345 (0), then 12345 * 1103515245 + 12345 = 13622895711870, by 2^31 left over 1406932606: 21468 by 100: 68.
        due("0 is less than 1", x.drawn(0, 1, 1, 1), 1);
        due("0 is less than 1", x.drawn(0, 1, 1, 0), 1);
        due("68 is not less than 68", x.drawn(0, 68, 1, 1), 1);
        due("68 is less than 69", x.drawn(0, 69, 1, 1), 2);
        due("0 is not less than 0", x.drawn(0, 0, 1, 1), 0);
        bad("drawn seed", before(), x.drawn(-1, 0, 0, 0));
        bad("drawn seed", before(), x.drawn(1000000, 0, 0, 0));
        bad("drawn w", before(), x.drawn(0, -1, 0, 0));
        bad("drawn w", before(), x.drawn(0, 101, 0, 0));
        bad("drawn m", before(), x.drawn(0, 0, -1, 0));
        bad("drawn m", before(), x.drawn(0, 0, 61, 0));
        bad("drawn what", before(), x.drawn(0, 0, 0, 2));
        bad("drawn what", before(), x.drawn(0, 0, 0, -1));
        long was = x.digest();
        x.drawn(999999, 50, 60, 0);
        due("nothing is changed", x.digest(), was);
        drawnBesideMeans();
    }

    /** What comes beside means does not come in a dry month; that one spends, or keeps, is nothing that comes. */
    static void drawnBesideMeans() {
        fresh();
        x.person(2, 0, 60);
        x.loan(0, 31, 1);
        due("spends", x.drawn(0, 0, 1, 1), 1);
        due("a spender spends in a dry month, too", x.drawn(0, 100, 1, 1), 1);
        fresh();
        x.person(2, 0, 60);
        x.loan(0, 30, 1);
        due("half of 60 stays", x.drawn(0, 100, 1, 0), 1);
        fresh();
        x.person(2, 9, 51);
        x.loan(0, 26, 1);
        due("of 60 stays 30", x.drawn(0, 0, 1, 0), 1);
        due("of 51 stays 25", x.drawn(0, 100, 1, 1), 1);
        fresh();
        x.person(2, 9, 50);
        x.loan(0, 50, 1);
        due("of 59 stays 29", x.drawn(0, 0, 1, 1), 1);
        due("50 is not above 50", x.drawn(0, 100, 1, 0), 1);
        drawnHeir();
        fresh();
        x.person(3, 9, 0);
        x.loan(0, 1, 1);
        due("a gleaner's 2 come in month 0", x.drawn(0, 0, 1, 0), 1);
        due("a gleaner's 2 do not come in a dry one", x.drawn(0, 100, 1, 1), 1);
        fresh();
        x.person(5, 9, 19);
        x.loan(0, 10, 1);
        due("a miser has 28", x.drawn(0, 0, 1, 0), 1);
        due("a miser keeps 19 in a dry month, too", x.drawn(0, 100, 1, 1), 1);
        fresh();
        x.person(0, 0, 0);
        x.person(0, 0, 0);
        x.person(2, 0, 4999);
        x.loan(2, 9, 12);
        due("a spender of 4999, nine months of 12", x.drawn(0, 50, 9, 1), 0);
        due("a spender of 4999, in the tenth", x.drawn(0, 50, 10, 1), 1);
        due("a spender of 4999, had", x.drawn(0, 50, 12, 0), 0);
    }

    static void drawnHeir() {
        fresh();
        x.person(4, 0, 0);
        x.pass(6);
        x.loan(0, 30, 1);
        due("an heir's 60 come in month 6, half is spent", x.drawn(0, 0, 1, 0), 1);
        due("an heir's 60 do not come in a dry one", x.drawn(0, 100, 1, 1), 1);
        fresh();
        x.person(4, 0, 81);
        x.loan(0, 41, 1);
        due("an heir spends in a dry month, too", x.drawn(0, 100, 1, 1), 1);
        fresh();
        x.person(4, 0, 81);
        x.loan(0, 40, 1);
        due("of 81 an heir keeps 40", x.drawn(0, 100, 1, 0), 1);
    }

    static void p30Part() {
        fresh();
        due("above", x.part(0), 0);
        due("below", x.part(1), 1);
        bad("part", before(), x.part(2));
        bad("part", before(), x.part(-1));
        x.person(0, 10, 0);
        x.loan(0, 10, 2);
        chance("1 by 25", 0, 2, 1, 25);
        x.image(0);
        chance("16 by 25", 0, 8, 16, 25);
        x.from(0);
        due("images do not keep it", x.part(0), 16);
        town("chest 1;", 1);
        due("a town does not change it", x.part(1), 25);
    }

    static void p31Image() {
        fresh();
        bad("image", before(), x.image(2));
        bad("image", before(), x.image(-1));
        x.person(0, 5, 5);
        x.loan(0, 5, 3);
        long was = x.digest();
        due("image", x.image(0), 1);
        due("image changes nothing", x.digest(), was);
        x.pass(1);
        due("image", x.image(1), 1);
        due("image again", x.image(0), 1);
        x.pass(1);
        x.from(0);
        due("the later one", x.count(2), 1);
    }

    static void p32From() {
        fresh();
        no("from", before(), x.from(0));
        no("from", before(), x.from(1));
        bad("from", before(), x.from(2));
        bad("from", before(), x.from(-1));
        x.person(0, 5, 5);
        x.loan(0, 5, 3);
        x.offer(3, 3);
        x.pass(2);
        x.image(0);
        long was = x.digest();
        x.undo();
        x.undo();
        x.sell(0, 0, 0);
        x.person(1, 1, 1);
        x.loan(1, 1, 1);
        x.chest(9);
        x.rate(9);
        x.none();
        town("chest 1;", 1);
        x.clear();
        int bads = x.status(0);
        no("another one", before(), x.from(1));
        due("from", x.from(0), 1);
        due("all is as it was", x.digest(), was);
        due("STATUS is not", x.status(0), bads);
        due("what may be undone", x.count(7), 2);
        due("undo", x.undo(), 1);
        due("month", x.count(2), 1);
        due("from again", x.from(0), 1);
        due("all is as it was", x.digest(), was);
        type("chest");
        x.from(0);
        due("the text stays", x.count(8), 5);
        fresh();
        x.person(0, 5, 0);
        x.pass(9);
        x.image(1);
        town("chest 1;person 0 77 0;", 2);
        x.pass(10);
        x.from(1);
        for (int i = 1; i <= 8; i++) {
            x.undo();
            due("month", x.count(2), 9 - i);
            due("purse", x.whose(0, 2), 5 * (9 - i));
        }
        due("no more", x.undo(), NO);
    }

    static void p33Status() {
        fresh();
        due("status", x.status(3), -1);
        due("it counts as BAD", x.status(0), 1);
        due("status", x.status(-1), -1);
        due("status", x.status(Integer.MAX_VALUE), -1);
        due("BAD", x.status(0), 3);
        x.undo();
        x.undo();
        due("NO", x.status(1), 2);
        for (int i = 0; i < 9; i++) x.offer(1, 1);
        due("FULL", x.status(2), 1);
        x.read();
        x.joins();
        x.lack(3);
        due("NONE and a fault are none", x.status(0) * 100 + x.status(1) * 10 + x.status(2), 321);
        x.image(0);
        x.undo();
        x.from(0);
        due("images do not keep it", x.status(1), 3);
    }

    static void p34Count() {
        fresh();
        x.chest(11);
        x.rate(12);
        x.person(0, 99, 0);
        x.person(0, 99, 0);
        x.loan(0, 50, 1);
        x.loan(0, 50, 1);
        x.loan(1, 50, 1);
        x.offer(1, 1);
        type("abcd");
        x.pass(2);
        // The second is a hole; 100 and 11 in the chest: 56 are had, 55 left; the third lacks twice.
        int[] want = {55, 12, 2, 2, 3, 1, 2, 2, 4};
        for (int what = 0; what <= 8; what++) due("count " + what, x.count(what), want[what]);
        bad("count", before(), x.count(9));
        bad("count", before(), x.count(-1));
    }

    static long mixed(long... vs) {
        long h = 839;
        for (long v : vs) h = 31 * h + v;
        return h;
    }

    static void p35Digest() {
        fresh();
        due("digest", x.digest(), mixed(0, 0, 0, 0, 0, 0, 0, 0, 0, 0, 1));
        x.chest(30);
        x.rate(10);
        x.person(2, 7, 20);
        x.person(5, 3, 4);
        x.loan(1, 9, 12);
        x.loan(0, 8, 3);
        x.offer(6, 5);
        x.offer(2, 1);
        type("x;");
        x.pass(1);
        x.luck(1, 5);
        // Purses 27 - 8 and 7; loan 0 is a hole; 19 and 7j of 8 and 16: sure.
        due("digest", x.digest(), mixed(38, 10, 1, 2, 2, 2, 0, 1, 2,
                2, 7, 19, 5, 3, 7,
                1, 9, 12, 2, 0, 0, 8, 3, 0, 1,
                6, 5, 2, 1,
                1, 1));
    }

    static final int[] WILD = {Integer.MIN_VALUE, -100000, -10, -2, -1, 0, 1, 2, 3, 4, 5, 6, 7, 8, 9, 12, 13, 31, 32, 33,
        60, 61, 63, 64, 99, 100, 1000000, Integer.MAX_VALUE};

    /** Numbers up to the ends of int, in an empty town and in a full one: nothing throws, every call ends. */
    static void wildNumbers() {
        fresh();
        askWildly();
        fresh();
        for (int i = 0; i < 9; i++) {
            x.person(i % 6, 99, 9999 - i);
            x.loan(i % 6, 99 - i / 2, 12);
            x.offer(99, 12);
        }
        x.rate(50);
        x.chest(99999);
        x.pass(12);
        x.undo();
        due("a full town", x.count(3) * 100 + x.count(4) * 10 + x.count(5), 688);
        askWildly();
        due("a full town", x.count(3) * 100 + x.count(4) * 10 + x.count(5), 688);
    }

    static void askWildly() {
        for (int a : WILD) {
            x.holds(a); x.lack(a); x.run(a); x.image(a); x.price(a); x.part(a); x.status(a); x.count(a); x.joins();
            for (int b : WILD) {
                x.whose(a, b); x.about(a, b); x.foretold(a, b); x.purse(a, b); x.best(a, b); x.whom(a, b); x.luck(a, b);
                x.join(a, b);
                for (int c : WILD) {
                    x.loanThen(a, b, c); x.will(a, b, c); x.drawn(a, b, c, 0); x.drawn(0, a, b, c); x.sell(a, b, c);
                }
            }
            x.from(a);
        }
    }

    public static void main(String[] args) {
        p01NewObject(); p02Chest(); p03Rate(); p04Person(); p05Loan(); p06Offer(); p07None(); p08Type(); p09Clear();
        p10Read(); p11Pass(); p12Join(); p13Sell(); p14Undo(); p15Whose(); p16About(); p17Foretold(); p18Purse();
        p19LoanThen(); p20Lack(); p21Holds(); p22Best(); p23Joins(); p24Run(); p25Will(); p26Whom(); p27Price();
        p28Luck(); p29Drawn(); p30Part(); p31Image(); p32From(); p33Status(); p34Count(); p35Digest();
        wildNumbers();
        end("promises 1 to 35: all answers are as due");
    }
}
