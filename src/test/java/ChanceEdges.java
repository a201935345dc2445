import java.math.BigInteger;

/** Worry, shared days, turns, signs: promises 24 to 27, 37 and 38, Terms 4 and 6. */
final class ChanceEdges {
    private static final int MIN = Integer.MIN_VALUE;
    private static final int MAX = Integer.MAX_VALUE;
    private static final int[] NOT_OF_TEN = {-1, -2, 11, 12, MIN, MAX};
    private static final int[] NOT_OF_A_HUNDRED = {-1, -2, 101, 102, MIN, MAX};

    private ChanceEdges() {
    }

    private static void worry(int a, int q, int k, long n, long d) {
        SoupNine x = new SoupNine();
        String call = "worry(" + a + ", " + q + ", " + k + ", ";
        Due.is(call + "false)", x.worry(a, q, k, false), n);
        Due.is(call + "true)", x.worry(a, q, k, true), d);
    }

    private static void when(int a, int q, int c, int due) {
        Due.is("when(" + a + ", " + q + ", " + c + ")", new SoupNine().when(a, q, c), due);
    }

    private static void sick(int[] of, long n, long d) {
        SoupNine x = new SoupNine();
        String call = "sick(" + of[0] + ", " + of[1] + ", " + of[2] + ", " + of[3] + ", " + of[4] + ", ";
        Due.is(call + "false)", x.sick(of[0], of[1], of[2], of[3], of[4], false), n);
        Due.is(call + "true)", x.sick(of[0], of[1], of[2], of[3], of[4], true), d);
    }

    private static void call(int q, int n, int a, int b, int c, int due) {
        Due.is("call(" + q + ", " + n + ", " + a + ", " + b + ", " + c + ")", new SoupNine().call(q, n, a, b, c), due);
    }

    private static long[] lowest(BigInteger n, BigInteger d) {
        BigInteger common = n.gcd(d);
        return new long[] {n.divide(common).longValueExact(), d.divide(common).longValueExact()};
    }

    private static BigInteger times(long many, long base, int power) {
        return BigInteger.valueOf(many).multiply(BigInteger.valueOf(base).pow(power));
    }

    // ---- promise 24

    @Edge(promise = 24, says = {"WORRY, N, or (under) D.",
        "WORRY: he comes by a of ten each night, 0 .. 10, if he is well; q of a hundred, 0 .. 100, is how likely he is not,"
            + " ahead of all; then he never comes: k nights, 0 .. 9, he did not come: how likely he is not well, a fraction in"
            + " least terms"})
    static void worryAtLeastAtMost() {
        // 20 of a hundred, by these and 80 of a hundred times one half
        worry(5, 20, 1, 1, 3);
        worry(5, 20, 0, 1, 5);
        worry(0, 20, 9, 1, 5);
        worry(10, 20, 1, 1, 1);
        worry(10, 20, 0, 1, 5);
        worry(10, 1, 9, 1, 1);
        worry(5, 0, 9, 0, 1);
        worry(0, 0, 0, 0, 1);
        worry(5, 100, 9, 1, 1);
        worry(10, 100, 9, 1, 1);
        worry(0, 100, 0, 1, 1);
        for (int a : new int[] {1, 3, 9}) {
            for (int q : new int[] {1, 50, 99}) {
                BigInteger n = times(q, 10, 9);
                long[] due = lowest(n, n.add(times(100 - q, 10 - a, 9)));
                worry(a, q, 9, due[0], due[1]);
            }
        }
    }

    @Edge(promise = 24, says = "(0 by 1, if that can't be);")
    static void worryThatCanNotBe() {
        worry(10, 0, 1, 0, 1);
        worry(10, 0, 9, 0, 1);
        worry(10, 0, 0, 0, 1);
    }

    @Edge(promise = 24, says = "NONE: other numbers.")
    static void worryOfOtherNumbers() {
        for (int other : NOT_OF_TEN) {
            worry(other, 20, 1, -1, -1);
        }
        for (int other : NOT_OF_A_HUNDRED) {
            worry(5, other, 1, -1, -1);
        }
        for (int other : new int[] {-1, -2, 10, 11, MIN, MAX}) {
            worry(5, 20, other, -1, -1);
        }
    }

    // ---- promise 25

    @Edge(promise = 25, says = {"WHEN.", "WHEN: the fewest nights, 0 to 9, after which that is c of ten or more, 0 .. 10."})
    static void whenAtLeastAtMost() {
        when(5, 20, 0, 0);
        when(5, 20, 2, 0);
        when(5, 20, 3, 1);
        // by two nights 1 of 2, by three 2 of 3
        when(5, 20, 5, 2);
        when(5, 20, 6, 3);
        when(0, 0, 0, 0);
        when(10, 0, 0, 0);
        when(10, 1, 10, 1);
        when(0, 100, 10, 0);
        when(10, 100, 10, 0);
        // 2 to the 9th by that and 99: 8 of ten after the ninth night only
        when(5, 1, 8, 9);
        when(5, 1, 9, -1);
    }

    @Edge(promise = 25, says = "NONE: not after 9")
    static void whenNotAfterNine() {
        when(5, 20, 10, -1);
        when(0, 49, 5, -1);
        when(0, 50, 5, 0);
        when(10, 0, 1, -1);
        when(9, 99, 10, -1);
        when(5, 0, 1, -1);
    }

    @Edge(promise = 25, says = ", or other numbers.")
    static void whenOfOtherNumbers() {
        for (int other : NOT_OF_TEN) {
            when(other, 100, 0, -1);
            when(5, 100, other, -1);
        }
        for (int other : NOT_OF_A_HUNDRED) {
            when(5, other, 0, -1);
        }
    }

    // ---- promise 26

    private static void shared(int van, int chapel, int n, int m, int... due) {
        SoupNine x = new SoupNine();
        for (int what = 0; what < 4; what++) {
            Due.is("shared(" + van + ", " + chapel + ", " + n + ", " + m + ", " + what + ")", x.shared(van, chapel, n, m, what), due[what]);
        }
    }

    @Edge(promise = 26, says = {"SHARED, what 0: days nobody goes, 1: both go, 2: the van's days, 3: the chapel's (bits).",
        "SHARED: of seven days the van may go on some (bits), the chapel on some; the van goes n times at most, the chapel m, 0"
            + " .. 7: the days of both so that nobody goes on the fewest days, then both on the fewest;"})
    static void sharedAtLeastAtMost() {
        shared(0, 0, 0, 0, 7, 0, 0, 0);
        shared(0, 0, 7, 7, 7, 0, 0, 0);
        shared(127, 127, 0, 0, 7, 0, 0, 0);
        shared(127, 127, 7, 0, 0, 0, 127, 0);
        shared(127, 127, 0, 7, 0, 0, 0, 127);
        shared(127, 0, 7, 7, 0, 0, 127, 0);
        shared(64, 64, 7, 7, 6, 0, 0, 64);
        shared(64, 1, 7, 7, 5, 0, 64, 1);
        shared(127, 127, 3, 4, 0, 0, 7, 120);
        shared(127, 127, 3, 3, 1, 0, 7, 56);
    }

    @Edge(promise = 26, says = "the van's bits, then the chapel's, the least: how many days nobody goes, both go; the days of"
            + " the van, of the chapel.")
    static void sharedByTheLeastBits() {
        shared(127, 127, 7, 7, 0, 0, 0, 127);
        shared(127, 127, 2, 2, 3, 0, 3, 12);
        shared(127, 127, 7, 6, 0, 0, 1, 126);
        shared(3, 6, 1, 7, 4, 0, 1, 6);
        shared(6, 3, 1, 7, 4, 0, 4, 3);
        // the van goes where the chapel may not, though its bits are more
        shared(65, 1, 1, 1, 5, 0, 64, 1);
    }

    @Edge(promise = 26, says = "NONE: other numbers")
    static void sharedOfOtherNumbers() {
        for (int other : new int[] {-1, -2, 128, 129, 255, MIN, MAX}) {
            shared(other, 1, 1, 1, -1, -1, -1, -1);
            shared(1, other, 1, 1, -1, -1, -1, -1);
        }
        for (int other : new int[] {-1, -2, 8, 9, MIN, MAX}) {
            shared(1, 1, other, 1, -1, -1, -1, -1);
            shared(1, 1, 1, other, -1, -1, -1, -1);
        }
    }

    @Edge(promise = 26, says = ", or for another what.")
    static void sharedOfAnotherWhat() {
        SoupNine x = new SoupNine();
        for (int what : new int[] {-1, -2, 4, 5, MIN, MAX}) {
            Due.is("shared(127, 127, 7, 7, " + what + ")", x.shared(127, 127, 7, 7, what), -1);
        }
    }

    // ---- promise 27

    private static void pairs(int n, int t, int... due) {
        SoupNine x = new SoupNine();
        for (int v = 0; v < n; v++) {
            Due.is("pair(" + n + ", " + t + ", " + v + ")", x.pair(n, t, v), due[v]);
        }
    }

    @Edge(promise = 27, says = {"PAIR: with whom volunteer v goes on night t.",
        "PAIR of n volunteers, 2 .. 12, by turns: on night t, 0 .. 99, r being t, remainder by n less 1 (n even), by n (n odd):"
            + " two of them go together whose numbers, from 0 on, together are r, remainder likewise;",
        "of n even the last one goes with him whose number, twice, is r by that remainder (he would go with himself);", "with"
            + " whom one goes."})
    static void pairsOfAnEvenNumber() {
        pairs(2, 0, 1, 0);
        pairs(2, 99, 1, 0);
        pairs(4, 0, 3, 2, 1, 0);
        pairs(4, 1, 1, 0, 3, 2);
        pairs(4, 2, 2, 3, 0, 1);
        pairs(4, 3, 3, 2, 1, 0);
        pairs(4, 99, 3, 2, 1, 0);
        pairs(12, 0, 11, 10, 9, 8, 7, 6, 5, 4, 3, 2, 1, 0);
        pairs(12, 10, 10, 9, 8, 7, 6, 11, 4, 3, 2, 1, 0, 5);
        pairs(12, 99, 11, 10, 9, 8, 7, 6, 5, 4, 3, 2, 1, 0);
    }

    @Edge(promise = 27, says = {"NONE: he stays at home.", "of n odd that one stays at home:"})
    static void pairsOfAnOddNumber() {
        pairs(3, 0, -1, 2, 1);
        pairs(3, 1, 1, 0, -1);
        pairs(3, 2, 2, -1, 0);
        pairs(3, 99, -1, 2, 1);
        pairs(5, 6, 1, 0, 4, -1, 2);
        pairs(11, 0, -1, 10, 9, 8, 7, 6, 5, 4, 3, 2, 1);
        pairs(11, 99, -1, 10, 9, 8, 7, 6, 5, 4, 3, 2, 1);
        pairs(11, 98, 10, 9, 8, 7, 6, -1, 4, 3, 2, 1, 0);
    }

    @Edge(promise = 27, says = "-2: other numbers.")
    static void pairsOfOtherNumbers() {
        SoupNine x = new SoupNine();
        for (int n : new int[] {-1, 0, 1, 13, 14, MIN, MAX}) {
            Due.is("pair(" + n + ", 0, 0)", x.pair(n, 0, 0), -2);
        }
        for (int t : new int[] {-1, -2, 100, 101, MIN, MAX}) {
            Due.is("pair(4, " + t + ", 0)", x.pair(4, t, 0), -2);
            Due.is("pair(5, " + t + ", 0)", x.pair(5, t, 0), -2);
        }
        for (int n = 2; n <= 12; n++) {
            for (int v : new int[] {-1, -2, n, n + 1, MIN, MAX}) {
                Due.is("pair(" + n + ", 0, " + v + ")", x.pair(n, 0, v), -2);
            }
        }
    }

    // ---- promise 37

    @Edge(promise = 37, says = {"SICK, N, or (under) D.",
        "SICK: one is ill by q of a hundred, ahead of all; of n signs, 1 .. 9, each is shown by a of ten who are ill, by b of"
            + " ten who are not, by itself; s of them are shown: how likely he is ill, a fraction in least terms"})
    static void sickAtLeastAtMost() {
        sick(new int[] {50, 1, 8, 2, 1}, 4, 5);
        sick(new int[] {50, 1, 8, 2, 0}, 1, 5);
        sick(new int[] {50, 2, 8, 2, 1}, 1, 2);
        sick(new int[] {20, 9, 5, 5, 4}, 1, 5);
        sick(new int[] {0, 9, 9, 1, 9}, 0, 1);
        sick(new int[] {100, 9, 1, 9, 9}, 1, 1);
        sick(new int[] {1, 1, 10, 0, 1}, 1, 1);
        sick(new int[] {99, 1, 10, 0, 0}, 0, 1);
        sick(new int[] {50, 9, 0, 0, 0}, 1, 2);
        sick(new int[] {50, 9, 10, 10, 9}, 1, 2);
        for (int s : new int[] {0, 4, 9}) {
            for (int q : new int[] {1, 50, 99}) {
                BigInteger ill = times(q, 7, s).multiply(times(1, 3, 9 - s));
                BigInteger well = times(100 - q, 1, s).multiply(times(1, 9, 9 - s));
                long[] due = lowest(ill, ill.add(well));
                sick(new int[] {q, 9, 7, 1, s}, due[0], due[1]);
            }
        }
    }

    @Edge(promise = 37, says = "(0 by 1, if that can't be).")
    static void sickThatCanNotBe() {
        sick(new int[] {50, 2, 10, 10, 1}, 0, 1);
        sick(new int[] {50, 2, 0, 0, 1}, 0, 1);
        sick(new int[] {50, 2, 10, 0, 1}, 0, 1);
        sick(new int[] {0, 9, 5, 0, 1}, 0, 1);
        sick(new int[] {100, 9, 0, 5, 1}, 0, 1);
    }

    @Edge(promise = 37, says = "NONE: other numbers.")
    static void sickOfOtherNumbers() {
        for (int other : NOT_OF_TEN) {
            sick(new int[] {50, 2, other, 5, 1}, -1, -1);
            sick(new int[] {50, 2, 5, other, 1}, -1, -1);
        }
        for (int other : NOT_OF_A_HUNDRED) {
            sick(new int[] {other, 2, 5, 5, 1}, -1, -1);
        }
        for (int other : new int[] {-1, 0, 10, 11, MIN, MAX}) {
            sick(new int[] {50, other, 5, 5, 0}, -1, -1);
        }
        for (int n = 1; n <= 9; n++) {
            for (int other : new int[] {-1, -2, n + 1, n + 2, MIN, MAX}) {
                sick(new int[] {50, n, 5, 5, other}, -1, -1);
            }
        }
    }

    // ---- promise 38

    @Edge(promise = 38, says = {"CALL.", "CALL: the fewest signs, 0 to n, by which that is c of ten or more."})
    static void callAtLeastAtMost() {
        // by none 1 of 17, by one 1 of 2, by both 16 of 17
        call(50, 2, 8, 2, 0, 0);
        call(50, 2, 8, 2, 1, 1);
        call(50, 2, 8, 2, 5, 1);
        call(50, 2, 8, 2, 6, 2);
        call(50, 2, 8, 2, 9, 2);
        call(50, 1, 8, 2, 2, 0);
        call(50, 1, 8, 2, 8, 1);
        call(1, 9, 10, 0, 10, 9);
        call(100, 9, 5, 5, 10, 0);
        call(0, 9, 5, 5, 0, 0);
        // the fewest, where more signs speak against it
        call(50, 2, 2, 8, 9, 0);
        // that none, or one, is shown can't be
        call(50, 2, 10, 10, 5, 2);
        call(50, 2, 10, 10, 0, 0);
    }

    @Edge(promise = 38, says = "NONE: by none")
    static void callByNone() {
        call(50, 2, 8, 2, 10, -1);
        call(50, 1, 8, 2, 9, -1);
        call(0, 9, 10, 0, 1, -1);
        call(49, 9, 5, 5, 5, -1);
        call(50, 9, 5, 5, 5, 0);
        call(99, 9, 5, 5, 10, -1);
    }

    @Edge(promise = 38, says = ", or other numbers.")
    static void callOfOtherNumbers() {
        for (int other : NOT_OF_TEN) {
            call(100, 2, other, 5, 0, -1);
            call(100, 2, 5, other, 0, -1);
            call(100, 2, 5, 5, other, -1);
        }
        for (int other : NOT_OF_A_HUNDRED) {
            call(other, 2, 5, 5, 0, -1);
        }
        for (int other : new int[] {-1, 0, 10, 11, MIN, MAX}) {
            call(100, other, 5, 5, 0, -1);
        }
    }
}
