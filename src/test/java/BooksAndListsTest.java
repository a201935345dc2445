import java.math.BigInteger;
import java.util.ArrayList;
import java.util.Arrays;
import java.util.List;
import java.util.Random;

/** Books, lists, worries, days and turns by chance, their answers found anew by trying all there is. */
public final class BooksAndListsTest {
    private static final String[] THINGS = {"socks", "gloves", "bags"};

    private final Random random;

    private BooksAndListsTest(long seed) {
        random = new Random(seed);
    }

    public static void main(String[] args) {
        SoupNine x = null;
        for (int seed = 0; seed < 300; seed++) {
            if (seed % 6 == 0) {
                x = new SoupNine();
            }
            BooksAndListsTest test = new BooksAndListsTest(seed);
            test.books(x);
            test.shoes(x);
            test.hides(x);
            test.days(x);
        }
        worries();
        turns();
        Due.finish("BooksAndListsTest");
    }

    private static long lowest(long n, long d, boolean under) {
        BigInteger g = BigInteger.valueOf(n).gcd(BigInteger.valueOf(d));
        return (under ? d : n) / g.longValueExact();
    }

    // ---- books

    private String bookOf(int[][] nights, int upTo) {
        StringBuilder text = new StringBuilder();
        for (int[] night : nights) {
            night[0] = random.nextInt(upTo);
            night[1] = random.nextInt(night[0] + 1);
            text.append("night ").append(night[0]).append(' ').append(night[1]).append(';');
            for (int i = random.nextInt(4); i > 0 && text.length() < 550; i--) {
                int thing = random.nextInt(3);
                night[2 + thing] = random.nextInt(upTo);
                text.append("asked ").append(THINGS[thing]).append(' ').append(night[2 + thing]).append(';');
            }
        }
        return text.toString();
    }

    // one object has several books and lists in one place, so that nothing of an earlier one may be left
    private static int place(SoupNine x, int sort, int k) {
        return k < x.count(sort) ? k : -1;
    }

    private void books(SoupNine x) {
        int[][] one = new int[random.nextInt(9)][5];
        int[][] other = new int[random.nextInt(9)][5];
        int upTo = random.nextBoolean() ? 100 : 6;
        String text = bookOf(one, upTo);
        Due.is("text", Due.tell(x, 2, place(x, 2, 0), text), 0);
        Due.is("text", Due.tell(x, 2, place(x, 2, 1), bookOf(other, upTo)), 1);
        Due.is("nights", x.book(0, -1, 0), one.length);
        for (int k = 0; k < one.length; k++) {
            for (int what = 0; what < 5; what++) {
                Due.is("book of " + text, x.book(0, k, what), one[k][what]);
            }
        }
        held(x, text, one);
        doorway(x, text, one);
        asked(x, text, one, other);
        lot(x, text, one, other);
    }

    private static void held(SoupNine x, String text, int[][] one) {
        int unlike = 0;
        int n = 0;
        int d = 0;
        for (int k = 0; k < one.length; k++) {
            n += k == 0 ? 0 : one[k][0] * unlike;
            d += k == 0 ? 0 : one[k][1];
            unlike += one[k][0] - one[k][1];
        }
        Due.is("held(0, 0) of " + text, x.held(0, 0), unlike);
        Due.is("held(0, 1) of " + text, x.held(0, 1), d == 0 ? -1 : lowest(n, d, false));
        Due.is("held(0, 2) of " + text, x.held(0, 2), d == 0 ? -1 : lowest(n, d, true));
    }

    private static void doorway(SoupNine x, String text, int[][] one) {
        int night = -1;
        long bestN = 0;
        long bestD = 1;
        for (int k = 1; k < one.length; k++) {
            long ahead = 0;
            long from = 0;
            for (int j = 0; j < one.length; j++) {
                ahead += j < k ? one[j][0] : 0;
                from += j < k ? 0 : one[j][0];
            }
            long n = from * k - ahead * (one.length - k);
            long d = (long) k * (one.length - k);
            if (n * bestD > bestN * d) {
                night = k;
                bestN = n;
                bestD = d;
            }
        }
        Due.is("doorway of " + text, x.held(0, 3), night);
        Due.is("doorway's N of " + text, x.held(0, 4), night < 0 ? -1 : lowest(bestN, bestD, false));
        Due.is("doorway's D of " + text, x.held(0, 5), night < 0 ? -1 : lowest(bestN, bestD, true));
    }

    private static void asked(SoupNine x, String text, int[][] one, int[][] other) {
        for (int thing = 0; thing < 3; thing++) {
            int[] all = new int[one.length];
            int couples = 0;
            for (int k = 0; k < one.length; k++) {
                all[k] = one[k][2 + thing];
                for (int[] night : other) {
                    couples += night[2 + thing] == all[k] ? 1 : 0;
                }
            }
            Arrays.sort(all);
            for (int k = 0; k <= one.length + 1; k++) {
                Due.is("bring of " + text, x.bring(0, thing, k), k < 1 || k > one.length ? -1 : all[k - 1]);
            }
            Due.is("span of " + text, x.span(0, thing, false), one.length == 0 ? -1 : all[0]);
            Due.is("span of " + text, x.span(0, thing, true), one.length == 0 ? -1 : all[one.length - 1]);
            Due.is("like of " + text, x.like(0, 1, thing), couples);
            Due.is("like of " + text, x.like(1, 0, thing), couples);
        }
    }

    private static void lot(SoupNine x, String text, int[][] one, int[][] other) {
        int all = one.length + other.length;
        int own = 0;
        for (int[] night : one) {
            own += night[0];
        }
        long n = 0;
        long d = 0;
        for (int set = 0; set < 1 << all; set++) {
            if (Integer.bitCount(set) == one.length) {
                int sum = 0;
                for (int k = 0; k < all; k++) {
                    sum += (set >> k & 1) * (k < one.length ? one[k][0] : other[k - one.length][0]);
                }
                d++;
                n += sum >= own ? 1 : 0;
            }
        }
        Due.is("lot N of " + text, x.lot(0, 1, false), lowest(n, d, false));
        Due.is("lot D of " + text, x.lot(0, 1, true), lowest(n, d, true));
    }

    // ---- lists

    private int[] shoeSize;
    private int[][] feet;
    private int bestNeed;
    private int[] bestShoes;

    private void tryShoes(int foot, int[] row, int gone, int need) {
        if (foot == feet.length) {
            if (need > bestNeed) {
                bestNeed = need;
                bestShoes = row.clone();
            }
            return;
        }
        for (int shoe = 0; shoe <= 6; shoe++) {
            boolean may = shoe == 6 || shoe < shoeSize.length && (gone >> shoe & 1) == 0
                    && (shoeSize[shoe] == feet[foot][0] || shoeSize[shoe] == feet[foot][0] + 1);
            if (may) {
                row[foot] = shoe;
                tryShoes(foot + 1, row, shoe == 6 ? gone : gone | 1 << shoe, need + (shoe == 6 ? 0 : feet[foot][1]));
            }
        }
    }

    private void shoes(SoupNine x) {
        StringBuilder text = new StringBuilder();
        int sizes = 2 + random.nextInt(4);
        shoeSize = new int[random.nextInt(7)];
        feet = new int[random.nextInt(9)][2];
        for (int i = 0; i < shoeSize.length; i++) {
            shoeSize[i] = 1 + random.nextInt(sizes);
            text.append("shoe ").append(shoeSize[i]).append(';');
        }
        for (int[] foot : feet) {
            foot[0] = 1 + random.nextInt(sizes);
            foot[1] = random.nextInt(10);
            text.append("foot ").append(foot[0]).append(' ').append(foot[1]).append(';');
        }
        bestNeed = -1;
        tryShoes(0, new int[feet.length], 0, 0);
        Due.is("text", Due.tell(x, 3, place(x, 3, 0), text.toString()), 0);
        Due.is("shod of " + text, x.shod(0, -1), bestNeed);
        for (int k = 0; k < 9; k++) {
            Due.is("shod(0, " + k + ") of " + text, x.shod(0, k), k < feet.length ? bestShoes[k] : -1);
        }
    }

    private int[][] hides;
    private long bestWalked;
    private List<Integer> bestRow;

    private void tryHides(List<Integer> row, int x, int y, int minutes, long walked) {
        if (row.size() == hides.length && walked < bestWalked) {
            bestWalked = walked;
            bestRow = new ArrayList<>(row);
        }
        for (int k = 0; k < hides.length; k++) {
            if (!row.contains(k)) {
                int then = minutes + Math.abs(x - hides[k][0]) + Math.abs(y - hides[k][1]);
                row.add(k);
                tryHides(row, hides[k][0], hides[k][1], then, walked + (long) then * hides[k][2]);
                row.remove(row.size() - 1);
            }
        }
    }

    private void hides(SoupNine x) {
        hides = new int[random.nextInt(7)][3];
        StringBuilder text = new StringBuilder();
        int near = 1 + random.nextInt(10);
        int upTo = 1 + random.nextInt(21);
        int odds = 0;
        for (int[] hide : hides) {
            hide[0] = random.nextInt(near);
            hide[1] = random.nextInt(near);
            hide[2] = random.nextInt(upTo);
            odds += hide[2];
            text.append("hide ").append(hide[0]).append(' ').append(hide[1]).append(' ').append(hide[2]).append(';');
        }
        bestWalked = Long.MAX_VALUE;
        tryHides(new ArrayList<>(), 0, 0, 0, 0);
        Due.is("text", Due.tell(x, 3, place(x, 3, 0), text.toString()), 0);
        Due.is("look N of " + text, x.look(0, -1), odds == 0 ? -1 : lowest(bestWalked, odds, false));
        Due.is("look D of " + text, x.look(0, -2), odds == 0 ? -1 : lowest(bestWalked, odds, true));
        for (int k = 0; k < 9; k++) {
            Due.is("look(0, " + k + ") of " + text, x.look(0, k), odds == 0 || k >= hides.length ? -1 : bestRow.get(k));
        }
    }

    // ---- days

    private void days(SoupNine x) {
        int van = random.nextInt(128);
        int chapel = random.nextInt(128);
        int n = random.nextInt(8);
        int m = random.nextInt(8);
        int[] best = null;
        for (int a = 0; a < 128; a++) {
            for (int b = 0; b < 128; b++) {
                if ((a & ~van) == 0 && (b & ~chapel) == 0 && Integer.bitCount(a) <= n && Integer.bitCount(b) <= m) {
                    int[] one = {7 - Integer.bitCount(a | b), Integer.bitCount(a & b), a, b};
                    if (best == null || Arrays.compare(one, best) < 0) {
                        best = one;
                    }
                }
            }
        }
        for (int what = 0; what < 4; what++) {
            Due.is("shared(" + van + ", " + chapel + ", " + n + ", " + m + ", " + what + ")",
                    x.shared(van, chapel, n, m, what), best[what]);
        }
    }

    // ---- worries and signs: all numbers there are

    private static long power(long base, int times) {
        return BigInteger.valueOf(base).pow(times).longValueExact();
    }

    private static long[] likely(long one, long other) {
        return one + other == 0 ? new long[] {0, 1}
                : new long[] {lowest(one, one + other, false), lowest(one, one + other, true)};
    }

    private static boolean reaches(long[] fraction, int c) {
        return fraction[0] * 10 >= fraction[1] * c;
    }

    private static void worries() {
        SoupNine x = new SoupNine();
        for (int a = 0; a <= 10; a++) {
            for (int q = 0; q <= 100; q += a % 3 == 0 ? 1 : 10) {
                int[] when = new int[11];
                Arrays.fill(when, -1);
                for (int k = 9; k >= 0; k--) {
                    long[] due = likely(q * power(10, k), (100 - q) * power(10 - a, k));
                    Due.is("worry N", x.worry(a, q, k, false), due[0]);
                    Due.is("worry D", x.worry(a, q, k, true), due[1]);
                    for (int c = 0; c <= 10; c++) {
                        when[c] = reaches(due, c) ? k : when[c];
                    }
                }
                for (int c = 0; c <= 10; c++) {
                    Due.is("when(" + a + ", " + q + ", " + c + ")", x.when(a, q, c), when[c]);
                }
                signs(x, q, a);
            }
        }
    }

    private static void signs(SoupNine x, int q, int a) {
        int n = 1 + (q + a) % 9;
        for (int b = 0; b <= 10; b++) {
            int[] fewest = new int[11];
            Arrays.fill(fewest, -1);
            for (int s = n; s >= 0; s--) {
                long[] due = likely(q * power(a, s) * power(10 - a, n - s), (100 - q) * power(b, s) * power(10 - b, n - s));
                Due.is("sick N", x.sick(q, n, a, b, s, false), due[0]);
                Due.is("sick D", x.sick(q, n, a, b, s, true), due[1]);
                for (int c = 0; c <= 10; c++) {
                    fewest[c] = reaches(due, c) ? s : fewest[c];
                }
            }
            for (int c = 0; c <= 10; c++) {
                Due.is("call", x.call(q, n, a, b, c), fewest[c]);
            }
        }
    }

    // ---- turns: all of them

    private static void turns() {
        SoupNine x = new SoupNine();
        for (int n = 2; n <= 12; n++) {
            int by = n % 2 == 0 ? n - 1 : n;
            for (int t = 0; t < 100; t++) {
                int r = t % by;
                for (int v = 0; v < n; v++) {
                    int due = -1;
                    for (int w = 0; w < n; w++) {
                        boolean both = v < by && w < by && v != w && (v + w) % by == r;
                        boolean last = n % 2 == 0 && (v == n - 1 && w < by && 2 * w % by == r
                                || w == n - 1 && v < by && 2 * v % by == r);
                        due = both || last ? w : due;
                    }
                    Due.is("pair(" + n + ", " + t + ", " + v + ")", x.pair(n, t, v), due);
                }
            }
        }
    }
}
