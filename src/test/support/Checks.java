import java.util.ArrayList;
import java.util.List;
import java.util.function.Supplier;

/** What the tests of the project share: how an answer is compared, and how a refused call is looked at from all sides. */
class Checks {
    static final int NONE = -1, BAD = -2, NO = -3, FULL = -4;
    static final int RUNS = 0, HAD = 1, HOLE = 2, OWED = 3, GONE = 4;
    /** Which of STATUS a call counts in; none of them. */
    static final int AS_BAD = 0, AS_NO = 1, AS_FULL = 2, AS_NONE = -1;
    static int wrong = 0;
    static BackLoans x;

    interface Call {
        long on(BackLoans b);
    }

    static void due(String call, long got, long want) {
        if (got != want) {
            wrong++;
            System.out.println(call + " answered " + got + ", due is " + want);
        }
    }

    static void fresh() {
        x = new BackLoans();
    }

    static void type(BackLoans b, String s) {
        b.clear();
        for (int i = 0; i < s.length(); i++) b.type(s.charAt(i));
    }

    static void type(String s) {
        type(x, s);
    }

    static void purses(String when, int... want) {
        for (int p = 0; p < want.length; p++) due(when + ": purse " + p, x.whose(p, 2), want[p]);
    }

    /** What a refused call may not change, as the digest has it. Called as refused(name, before(), call). */
    static long[] before() {
        return new long[] {x.digest(), x.status(0), x.status(1), x.status(2)};
    }

    static void refused(String call, long[] was, long got, int answer, int kind) {
        due(call, got, answer);
        due(call + ": digest", x.digest(), was[0]);
        for (int s = 0; s < 3; s++) due(call + ": status " + s, x.status(s), was[1 + s] + (s == kind ? 1 : 0));
    }

    static void bad(String call, long[] was, long got) {
        refused(call, was, got, BAD, AS_BAD);
    }

    static void no(String call, long[] was, long got) {
        refused(call, was, got, NO, AS_NO);
    }

    static void full(String call, long[] was, long got) {
        refused(call, was, got, FULL, AS_FULL);
    }

    /** On a bank like that the call has this answer and counts in this STATUS; all else is as in a bank that was not asked. */
    static void changesNothing(String call, Supplier<BackLoans> bank, Call asked, long answer, int kind) {
        BackLoans b = bank.get();
        int[] was = {b.status(0), b.status(1), b.status(2)};
        due(call, asked.on(b), answer);
        for (int s = 0; s < 3; s++) due(call + ": status " + s, b.status(s), was[s] + (s == kind ? 1 : 0));
        likeNew(call, b, bank.get());
    }

    static void likeNew(String call, BackLoans asked, BackLoans other) {
        List<Long> got = everything(asked), want = everything(other);
        for (int i = 0; i < want.size(); i++) due(call + ": what it left behind, " + i, got.get(i), want.get(i));
    }

    /** All that a bank can tell but STATUS: the digest alone shows neither images nor what may be undone nor the text's bytes. The bank is used up. */
    static List<Long> everything(BackLoans b) {
        List<Long> all = new ArrayList<>();
        all.add(b.part(0));
        all.add(b.part(1));
        tellBackwards(b, all);
        for (int i = 0; i < 2; i++) {
            all.add((long) b.from(i));
            tellBackwards(b, all);
        }
        all.add((long) b.read());
        all.add(b.digest());
        return all;
    }

    static void tellBackwards(BackLoans b, List<Long> all) {
        all.add(b.digest());
        for (int l = 0; l < b.count(4); l++) all.add((long) b.about(l, 5));
        for (int i = 0; i < 9; i++) {
            all.add((long) b.undo());
            all.add(b.digest());
        }
    }

    static void end(String allWell) {
        System.out.println(wrong == 0 ? allWell : wrong + " answers are not as due");
        if (wrong != 0) System.exit(1);
    }
}
