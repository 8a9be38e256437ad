/**
 * The document's words on THE TEXT and how a town is read from it, each at its edge. A bank is used for one text alone,
 * and it has a past, images and a fraction, so that it is seen what a fault leaves, and what a town that is read takes away.
 */
public final class TextEdgeTest extends Checks {
    static final String HEAD = "chest 1;", ONE = "chest 1;person 0 0 0;";

    /** The text is read: so many items. */
    static BackLoans reads(String text, int items) {
        BackLoans b = Towns.mixed();
        // What was foretold last must not be seen in the town that is read.
        b.foretold(60, 1);
        type(b, text);
        int bads = b.status(0);
        due("read \"" + shown(text) + "\"", b.read(), items);
        due("read \"" + shown(text) + "\": status", b.status(0), bads);
        return b;
    }

    /** "-10 less the FAULT: all stays." It is told as none of BAD, NO, FULL, so STATUS stays, too. */
    static void fault(String text, int place) {
        changesNothing("read \"" + shown(text) + "\"", () -> with(text), b -> b.read(), -10 - place, AS_NONE);
    }

    static BackLoans with(String text) {
        BackLoans b = Towns.mixed();
        type(b, text);
        return b;
    }

    static String shown(String text) {
        StringBuilder s = new StringBuilder();
        for (char c : text.toCharArray()) s.append(c < 32 || c > 126 ? "<" + (int) c + ">" : String.valueOf(c));
        return s.toString();
    }

    /** "the TEXT's length, if it ends too early (an empty one, too)" */
    static void endsTooEarly() {
        for (String t : new String[] {"", " ", "   ", "chest", "chest ", "chest 1", "chest 1 ", "chest 1;rate", "chest 1;rate ",
            "chest 1;rate 5", "chest 1;person", "chest 1;person 0", "chest 1;person 0 0", "chest 1;person 0 0 0",
            ONE + "loan", ONE + "loan 0", ONE + "loan 0 1", ONE + "loan 0 1 1", ONE + "loan 0 1 1   ",
            "chest 1;offer", "chest 1;offer 1", "chest 1;offer 1 1"}) {
            fault(t, t.length());
        }
        fault(" ".repeat(150), 150);
        fault("chest 1" + " ".repeat(143), 150);
        fault("chest" + " ".repeat(144) + "1", 150);
        reads("chest" + " ".repeat(143) + "1;", 1);
    }

    /** Each beginning of a town: a town itself behind its ; and blanks, a fault at the word that is none, else at its length. */
    static void everyBeginning() {
        String t = "chest 12345 ; rate 50;person 5 99 9999; loan 0 99 12;offer 99 12; ";
        int items = 0, word = -1;
        for (int n = 0; n <= t.length(); n++) {
            char last = n == 0 ? ' ' : t.charAt(n - 1);
            if (last == ';') items++;
            boolean inWord = last >= 'a' && last <= 'z', wordGoesOn = n < t.length() && t.charAt(n) >= 'a' && t.charAt(n) <= 'z';
            if (inWord && word < 0) word = n - 1;
            if (!inWord) word = -1;
            String begun = t.substring(0, n);
            boolean ended = begun.trim().endsWith(";");
            if (ended) reads(begun, items);
            else fault(begun, inWord && wordGoesOn ? word : n);
        }
        due("items", items, 5);
    }

    /** "chest n (once, first of all)": "chest again, anything ahead of it". */
    static void chestFirstAndOnce() {
        for (String t : new String[] {"rate 1;", "person 0 0 0;", "loan 0 1 1;", "offer 1 1;", "1;", ";", "ches 1;", "chests 1;",
            "Chest 1;", "c", "chestrate 1;", "a1;"}) {
            fault(t, 0);
            fault("  " + t, 2);
            fault(t + "chest 1;", 0);
        }
        fault("chest 1;chest 1;", 8);
        fault("chest 1;rate 1; chest 2;", 16);
        fault(ONE + "chest", 21);
        BackLoans b = reads("chest 8;", 1);
        int[] counts = {8, 0, 0, 0, 0, 0, 0, 0, 8};
        for (int what = 0; what < 9; what++) due("nothing but a chest is told: " + what, b.count(what), counts[what]);
    }

    /** A word is one only with all its letters, and no other ones. */
    static void everyLetter() {
        String[] items = {"chest 1;", "rate 1;", "person 0 0 0;", "loan 0 1 1;", "offer 1 1;"};
        for (String item : items) {
            String head = item.startsWith("chest") ? "" : ONE;
            int word = item.indexOf(' ');
            reads(head + item, head.isEmpty() ? 1 : 3);
            for (int at = 0; at < word; at++) {
                fault(head + item.substring(0, at) + "z" + item.substring(at + 1), head.length());
                fault(head + item.substring(0, at) + item.substring(at + 1), head.length());
            }
            for (String more : new String[] {"a", "z", "m"}) {
                fault(head + item.substring(0, word) + more + item.substring(word), head.length());
                fault(head + more + item, head.length());
            }
        }
    }

    /** "a word that is none", also a ; or a number in its place, also an item within an item. */
    static void whereAWordStands() {
        for (String t : new String[] {"rat 1;", "rates 1;", "ratE 1;", "people 0 0 0;", "persons 0 0 0;", "loa 0 1 1;", "loans 0 1 1;",
            "offers 1 1;", "offe 1 1;", "x;", ";", "5;", "5", "none;", "clear;", "raterate 1;", "rateperson 0 0 0;"}) {
            fault(HEAD + t, 8);
            fault(HEAD + " " + t, 9);
        }
        fault("chest chest 1;", 6);
        fault("chest rate 1;", 6);
        fault("chest ;", 6);
        fault("chest 1 rate 1;", 8);
        fault("chest 1 1;", 8);
        fault("chest 1;rate ;", 13);
        fault("chest 1;rate 1 1;", 15);
        fault("chest 1;person 0 0;", 18);
        fault("chest 1;person 0 0 0 0;", 21);
        fault(ONE + "loan 0 1;", 29);
        fault(ONE + "loan 0 1 1 1;", 32);
        fault("chest 1;offer 1;", 15);
        fault("chest 1;offer 1 1 1;", 18);
    }

    static void number(String ahead, int least, int most, String behind) {
        reads(ahead + least + behind, items(ahead + behind));
        reads(ahead + most + behind, items(ahead + behind));
        reads(ahead + "0000".substring(0, 5 - String.valueOf(most).length()) + most + behind, items(ahead + behind));
        if (least > 0) fault(ahead + (least - 1) + behind, ahead.length());
        if (most < 99999) fault(ahead + (most + 1) + behind, ahead.length());
        if (most < 99999) fault(ahead + "99999" + behind, ahead.length());
        fault(ahead + "-" + least + behind, ahead.length());
        fault(ahead + "+" + most + behind, ahead.length());
        fault(ahead + "x" + behind, ahead.length());
        fault(ahead + ";" + behind, ahead.length());
    }

    static int items(String text) {
        return text.length() - text.replace(";", "").length();
    }

    /** "a number not as told, also a PERSON that is not there yet" */
    static void everyNumber() {
        number("chest ", 0, 99999, ";");
        number("chest 1;rate ", 0, 50, ";");
        number("chest 1;person ", 0, 5, " 0 0;");
        number("chest 1;person 0 ", 0, 99, " 0;");
        number("chest 1;person 0 0 ", 0, 9999, ";");
        number(ONE + "loan ", 0, 0, " 1 1;");
        number(ONE + "person 0 0 0;loan ", 0, 1, " 1 1;");
        number(HEAD + "person 0 0 0;".repeat(6) + "loan ", 0, 5, " 1 1;");
        number(ONE + "loan 0 ", 1, 99, " 1;");
        number(ONE + "loan 0 1 ", 1, 12, ";");
        number("chest 1;offer ", 1, 99, " 1;");
        number("chest 1;offer 1 ", 1, 12, ";");
        fault("chest 1;loan 0 1 1;", 13);
        fault("chest 1;loan 0 1 1;person 0 0 0;", 13);
        fault(ONE + "loan 1 1 1;person 0 0 0;", 26);
    }

    /** "figures (1 to 5 are one number)", "a sixth figure's number": at the number's first byte. */
    static void figures() {
        reads("chest 00000;", 1);
        reads("chest 00009;rate 00050;", 2);
        fault("chest 000000;", 6);
        fault("chest 000001;", 6);
        fault("chest 100000;", 6);
        fault("chest   999999999999;", 8);
        fault("chest 000000", 6);
        fault("chest 1;rate 000001;", 13);
        fault("chest 1;person 0 0 000001;", 19);
        fault("chest 1;000000;", 8);
        due("five figures", reads("chest 01234;", 1).count(0), 1234);
        due("five figures", reads("chest 12345;", 1).count(0), 12345);
    }

    /** "a 7th person, a 9th loan, a 9th offer at its word": the last that may come, and one more. */
    static void tooMany() {
        String people = HEAD + "person 0 0 0;".repeat(6);
        due("six", reads(people, 7).count(3), 6);
        fault(people + "person 0 0 0;", people.length());
        fault(people + "  person", people.length() + 2);
        String loans = ONE + "loan 0 1 1;".repeat(8);
        due("eight", reads(loans, 10).count(4), 8);
        fault(loans + "loan 0 1 1;", loans.length());
        fault(loans + "loan", loans.length());
        fault(loans + "loan 9 0 0;", loans.length());
        String offers = HEAD + "offer 1 1;".repeat(8);
        due("eight", reads(offers, 9).count(5), 8);
        fault(offers + "offer 1 1;", offers.length());
        fault(offers + "offer", offers.length());
        reads(offers + "rate 1;person 0 0 0;loan 0 1 1;", 12);
        String rates = HEAD + "rate 1;".repeat(20);
        due("rates as many as there is room for", reads(rates, 21).count(1), 1);
    }

    /** "a byte that begins none": every byte but a .. z, figures, ; and the blank, wherever a token may begin. */
    static void bytesThatBeginNone() {
        for (int c = 0; c < 128; c++) {
            boolean begins = c >= 'a' && c <= 'z' || c >= '0' && c <= '9' || c == ';' || c == ' ';
            if (begins) continue;
            String s = String.valueOf((char) c);
            fault(s, 0);
            fault(s + "chest 1;", 0);
            fault("chest" + s + "1;", 5);
            fault("che" + s + "st 1;", 0);
            fault("chest 1" + s + ";", 7);
            fault("chest 1;" + s, 8);
            fault("chest 1; rate 1" + s + "0;", 15);
        }
    }

    /** "blanks (32) between": as many as one likes, and none where tokens part by themselves. */
    static void blanks() {
        due("blanks", reads("  chest   5  ;  rate   7  ;  ", 2).count(1), 7);
        due("no blanks", reads("chest5;rate7;person0 1 2;", 3).whose(0, 2), 2);
        fault("chest 1;person 012;", 15);
        fault("che st 1;", 0);
        fault("chest 1 2;", 8);
        reads("chest 1;" + " ".repeat(142), 1);
        fault("chest 1;" + " ".repeat(141) + "x", 149);
        fault("chest 1;" + " ".repeat(141) + ";", 149);
        fault("chest 1;" + " ".repeat(138) + "rate", 150);
    }

    /** What an earlier, longer text had does not count: neither its bytes nor what was read of it. */
    static void clearedText() {
        BackLoans b = Towns.mixed();
        type(b, "chest 1;rate 51;");
        due("a fault", b.read(), -10 - 13);
        due("cleared", b.clear(), 16);
        due("empty", b.read(), -10);
        for (int c : new int[] {'c', 'h', 'e', 's', 't'}) b.type(c);
        due("too short", b.read(), -15);
        b.type('9');
        due("too short", b.read(), -16);
        b.type(';');
        due("a town", b.read(), 1);
        due("the chest", b.count(0), 9);
        b.type('c');
        due("the text goes on", b.read(), -10 - 7);
        due("the chest stays", b.count(0), 9);
    }

    /** "A TOWN that is read takes the place of all but IMAGES, THE TEXT, THE FRACTION, STATUS (MONTH 0, nothing to undo)." */
    static void whatATownTakesAway() {
        BackLoans b = Towns.mixed();
        b.foretold(60, 1);
        long image0 = digestFrom(0), image1 = digestFrom(1);
        int[] status = {b.status(0), b.status(1), b.status(2)};
        due("read", b.read(), 6);
        int[] counts = {7, 3, 0, 2, 1, 1, 0, 0, Towns.A_TOWN.length()};
        for (int what = 0; what < 9; what++) due("read: count " + what, b.count(what), counts[what]);
        int[] people = {1, 2, 3, 4, 5, 6}, loan = {1, 8, 9, RUNS, 0, 74};
        for (int i = 0; i < 6; i++) {
            due("read: whose " + i, b.whose(i / 3, i % 3), people[i]);
            due("read: about " + i, b.about(0, i), loan[i]);
        }
        due("the offer", b.best(1, 0), 0);
        due("the fraction", b.part(0) * 1000 + b.part(1), 9100);
        for (int s = 0; s < 3; s++) due("status", b.status(s), status[s]);
        due("nothing to undo", b.undo(), NO);
        due("image 0", b.from(0), 1);
        due("image 0", b.digest(), image0);
        due("image 1", b.from(1), 1);
        due("image 1", b.digest(), image1);
        due("read again", b.read(), 6);
        due("month 0", b.count(2), 0);
    }

    static long digestFrom(int i) {
        BackLoans b = Towns.mixed();
        b.from(i);
        return b.digest();
    }

    /** A town that is read is the town that is told by calls, whatever was there before. */
    static void readAndTold() {
        String text = "chest 99999;rate 50;person 0 0 0;person 5 99 9999;loan 1 1 1;loan 0 99 12;offer 1 12;offer 99 1;rate 49;";
        BackLoans read = reads(text, 9), told = new BackLoans();
        told.chest(99999);
        told.rate(49);
        told.person(0, 0, 0);
        told.person(5, 99, 9999);
        told.loan(1, 1, 1);
        told.loan(0, 99, 12);
        told.offer(1, 12);
        told.offer(99, 1);
        type(told, text);
        for (int c : new int[] {0, 1, 2, 3, 4, 5, 6, 7, 8}) due("count " + c, read.count(c), told.count(c));
        read.person(0, 10, 0);
        read.loan(2, 10, 2);
        read.luck(2, 3);
        told.person(0, 10, 0);
        told.loan(2, 10, 2);
        told.luck(2, 3);
        due("digest", read.digest(), told.digest());
        read.pass(12);
        told.pass(12);
        due("digest behind 12 months", read.digest(), told.digest());
    }

    /** "A byte (0 .. 127) comes behind THE TEXT: how many it has", up to 150; "THE TEXT is empty: how many it had." */
    static void typeAndClear() {
        fresh();
        for (int i = 1; i <= 150; i++) due("type", x.type(i % 128), i);
        full("the 151st", before(), x.type(0));
        full("the 151st", before(), x.type(127));
        bad("BAD ahead of FULL", before(), x.type(128));
        bad("BAD ahead of FULL", before(), x.type(-1));
        due("clear", x.clear(), 150);
        due("clear again", x.clear(), 0);
        due("bytes", x.count(8), 0);
        due("type 0", x.type(0), 1);
        due("type 127", x.type(127), 2);
        due("byte 0 is a byte", x.read(), -10);
        due("clear", x.clear(), 2);
    }

    public static void main(String[] args) {
        endsTooEarly();
        everyBeginning();
        chestFirstAndOnce();
        whereAWordStands();
        everyLetter();
        everyNumber();
        figures();
        tooMany();
        bytesThatBeginNone();
        blanks();
        clearedText();
        whatATownTakesAway();
        readAndTold();
        typeAndClear();
        end("edges of the text: all answers are as due");
    }
}
