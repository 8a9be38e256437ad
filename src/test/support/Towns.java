/** Towns in which every refusal can be met. Each call makes a new one, always alike; none needs more than 300 calls. */
final class Towns {
    private Towns() {
    }

    static final String A_TOWN = "chest 7;rate 3;person 1 2 3;person 4 5 6;loan 1 8 9;offer 10 11;";

    static BackLoans empty() {
        return new BackLoans();
    }

    /** THE FRACTION becomes 9 by 100, by a town that is not kept; image 0 is the empty town. */
    static BackLoans withFraction() {
        BackLoans b = new BackLoans();
        b.image(0);
        b.person(0, 10, 0);
        b.loan(0, 10, 2);
        b.luck(0, 3);
        b.from(0);
        return b;
    }

    /**
     * 3 people and 7 loans: 0 a hole (4 of 5), 1 gone, 2 had, 3 and 4 holes (0 of 6), 5 owed, 6 runs (2 of 12);
     * owners 0, 2, 1, 2, 0, 1, 1. Month 6, one lack, 7 that may be undone, 2 offers, two images, a town in the text.
     */
    static BackLoans mixed() {
        BackLoans b = withFraction();
        b.person(0, 0, 30);
        b.person(0, 50, 100);
        b.person(0, 0, 10);
        b.loan(0, 10, 5);
        b.loan(2, 10, 5);
        b.loan(1, 4, 1);
        b.pass(1);
        b.image(0);
        b.pass(3);
        b.loan(2, 7, 6);
        b.loan(0, 7, 6);
        b.loan(1, 20, 2);
        b.loan(1, 5, 12);
        b.rate(50);
        b.chest(0);
        b.pass(1);
        b.image(1);
        b.pass(1);
        b.join(0, 1);
        b.offer(3, 4);
        b.offer(9, 9);
        Checks.type(b, A_TOWN);
        b.chest(-1);
        return b;
    }

    /**
     * 6 loans of 10 pence and 2 months: 0 had, 1 gone, 2 and 3 holes (1 of 2), 4 owed, 5 runs; owners 0, 1, 2, 3, 0, 0.
     * So what is refused there is refused for what the loan is, and not for its pence and months.
     */
    static BackLoans alike() {
        BackLoans b = withFraction();
        b.person(0, 0, 9000);
        b.person(0, 0, 10);
        b.person(0, 0, 10);
        b.person(0, 0, 0);
        b.loan(0, 10, 2);
        b.loan(1, 10, 2);
        b.loan(2, 10, 2);
        b.loan(3, 10, 2);
        b.pass(2);
        b.join(3, 1);
        b.image(1);
        b.rate(50);
        b.chest(0);
        b.loan(0, 10, 2);
        b.pass(2);
        b.loan(0, 10, 2);
        Checks.type(b, A_TOWN);
        return b;
    }

    /** 6 people, 8 loans, 8 offers, 8 that may be undone, 150 bytes; the chest and the first purse have all they may. */
    static BackLoans full() {
        BackLoans b = withFraction();
        b.person(0, 99, 9999);
        for (int p = 1; p < 6; p++) b.person(p, 10 * p, 100 * p);
        for (int l = 0; l < 8; l++) b.loan(l % 6, 5 + l, 5 + l / 2);
        for (int o = 0; o < 8; o++) b.offer(1 + o, 12 - o);
        b.rate(50);
        b.pass(9);
        b.chest(99999);
        b.image(1);
        Checks.type(b, A_TOWN + " ".repeat(150 - A_TOWN.length() - 7) + "rate 9;");
        return b;
    }

    /** Seven loans of 12 months, so many of them gone by, and an eighth that begins then; the rate is 50. */
    static BackLoans seven(int pence, int last, int months) {
        BackLoans b = new BackLoans();
        b.rate(50);
        b.person(0, 99, 9999);
        for (int l = 0; l < 7; l++) b.loan(0, pence, 12);
        b.pass(months);
        b.loan(0, last, 12);
        return b;
    }

    /** A town whose months are all undone. */
    static BackLoans undone() {
        BackLoans b = mixed();
        for (int i = 0; i < 7; i++) b.undo();
        return b;
    }
}
