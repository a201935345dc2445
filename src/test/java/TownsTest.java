import java.math.BigInteger;
import java.util.ArrayList;
import java.util.List;
import java.util.Random;

/** Towns by chance, their answers found anew by trying all there is. */
public final class TownsTest {
    private static final String[] KINDS = {"even", "crowded", "empty", "last"};

    private final Random random;
    private int homeX, homeY, soup, pace, cold, talk, stops;
    private final int[] kind = new int[9], px = new int[9], py = new int[9], least = new int[9], most = new int[9];
    private final int[] followers = new int[9], to = new int[9];

    private TownsTest(long seed) {
        random = new Random(seed);
    }

    public static void main(String[] args) {
        SoupNine x = null;
        for (int seed = 0; seed < 700; seed++) {
            if (seed % 7 == 0) {
                x = new SoupNine();
            }
            new TownsTest(seed).all(x, seed);
        }
        Due.finish("TownsTest");
    }

    // one object has several towns in one place, so that nothing of an earlier one may be left
    private void all(SoupNine x, int seed) {
        String text = make(random.nextInt(seed % 50 == 0 ? 10 : 7));
        Due.is("text", Due.tell(x, 0, x.count(0) == 0 ? -1 : 0, text), 0);
        wayAndSo(x, text);
        roundAndVans(x, text);
        bowls(x, text);
        depot(x, text);
        trails(x, text);
        evenings(x, text);
        drawnOnes(x, text);
    }

    private String make(int many) {
        stops = many;
        int near = 2 + random.nextInt(9);
        int crowd = 1 + random.nextInt(20);
        StringBuilder text = new StringBuilder();
        homeX = random.nextInt(near > 9 ? 10 : near);
        homeY = random.nextInt(near > 9 ? 10 : near);
        soup = random.nextInt(100);
        pace = 1 + random.nextInt(random.nextInt(9) + 1);
        cold = random.nextInt(100);
        talk = 1 + random.nextInt(30);
        text.append("home ").append(homeX).append(' ').append(homeY).append(';');
        text.append("soup ").append(soup).append(";pace ").append(pace).append(";cold ").append(cold);
        text.append(";talk ").append(talk).append(";\n");
        for (int s = 0; s < stops; s++) {
            kind[s] = random.nextInt(4);
            px[s] = random.nextInt(near > 9 ? 10 : near);
            py[s] = random.nextInt(near > 9 ? 10 : near);
            least[s] = random.nextInt(crowd);
            most[s] = least[s] + random.nextInt(21 - least[s]);
            to[s] = -1;
            text.append(KINDS[kind[s]]).append(' ').append(px[s]).append(' ').append(py[s]).append(' ');
            text.append(least[s]).append(' ').append(most[s]).append(';');
        }
        for (int i = 0; i < 6 && stops > 1; i++) {
            int a = random.nextInt(stops);
            int b = (a + 1 + random.nextInt(stops - 1)) % stops;
            followers[a] = random.nextInt(10);
            to[a] = b;
            text.append("follow ").append(a).append(' ').append(b).append(' ').append(followers[a]).append(';');
        }
        return text.toString();
    }

    private int middle(int s) {
        return kind[s] == 1 ? most[s] : kind[s] == 2 ? least[s] : (least[s] + most[s]) / 2;
    }

    private int drive(int a, int b) {
        int ax = a < 0 ? homeX : px[a], ay = a < 0 ? homeY : py[a];
        int bx = b < 0 ? homeX : px[b], by = b < 0 ? homeY : py[b];
        return pace * (Math.abs(ax - bx) + Math.abs(ay - by));
    }

    // ---- WAY, TALKS, LOST, CHAT

    private int bestPeople, bestMinutes, without;
    private List<Integer> bestRow;

    private void tryRows(List<Integer> row, int at, int minute, int people) {
        if (people > bestPeople || people == bestPeople && minute < bestMinutes) {
            bestPeople = people;
            bestMinutes = minute;
            bestRow = new ArrayList<>(row);
        }
        for (int s = 0; s < stops; s++) {
            int comes = minute + drive(at, s);
            if (s != without && middle(s) > 0 && !row.contains(s) && comes < cold) {
                row.add(s);
                tryRows(row, s, comes + (middle(s) + 1) / 2, people + middle(s));
                row.remove(row.size() - 1);
            }
        }
    }

    private void findWay(int stop) {
        without = stop;
        bestPeople = 0;
        bestMinutes = 0;
        bestRow = new ArrayList<>();
        tryRows(new ArrayList<>(), -1, 0, 0);
    }

    private boolean allWarm(List<Integer> row, int[] talks) {
        int minute = 0;
        int at = -1;
        for (int s : row) {
            minute += drive(at, s);
            if (minute >= cold) {
                return false;
            }
            minute += (middle(s) + 1) / 2 + talk * talks[s];
            at = s;
        }
        return true;
    }

    private void wayAndSo(SoupNine x, String text) {
        findWay(-1);
        int people = bestPeople;
        List<Integer> row = bestRow;
        Due.is("way of " + text, x.way(0, -1), people);
        Due.is("way's minutes of " + text, x.way(0, -2), bestMinutes);
        for (int k = 0; k < 10; k++) {
            Due.is("way(0, " + k + ") of " + text, x.way(0, k), k < row.size() ? row.get(k) : -1);
        }
        int talks = -1;
        for (int t = 0; t <= 9 && !row.isEmpty(); t++) {
            int[] at = new int[9];
            at[row.get(0)] = t;
            talks = allWarm(row, at) ? t : talks;
        }
        Due.is("talks of " + text, x.talks(0), talks);
        chat(x, text, row);
        for (int s = 0; s < stops; s++) {
            findWay(s);
            Due.is("lost of " + text, x.lost(0, s), people - bestPeople);
        }
    }

    private void chat(SoupNine x, String text, List<Integer> row) {
        int best = -1;
        int bits = 0;
        for (int set = 0; set < 1 << stops; set++) {
            int[] at = new int[9];
            int sum = 0;
            boolean may = true;
            for (int s = 0; s < stops; s++) {
                at[s] = set >> s & 1;
                sum += at[s] * middle(s);
                may &= at[s] == 0 || row.contains(s);
            }
            if (may && allWarm(row, at) && sum > best) {
                best = sum;
                bits = set;
            }
        }
        Due.is("chat of " + text, x.chat(0, false), best);
        Due.is("chat's STOPS of " + text, x.chat(0, true), bits);
    }

    // ---- ROUND, VANS

    private void tryRound(List<Integer> row, int set, int at, int minutes) {
        if (row.size() == Integer.bitCount(set)) {
            if (minutes + drive(at, -1) < bestMinutes) {
                bestMinutes = minutes + drive(at, -1);
                bestRow = new ArrayList<>(row);
            }
            return;
        }
        for (int s = 0; s < stops; s++) {
            if ((set >> s & 1) == 1 && !row.contains(s)) {
                row.add(s);
                tryRound(row, set, s, minutes + drive(at, s));
                row.remove(row.size() - 1);
            }
        }
    }

    private int round(int set) {
        bestMinutes = Integer.MAX_VALUE;
        tryRound(new ArrayList<>(), set, -1, 0);
        return bestMinutes;
    }

    private void roundAndVans(SoupNine x, String text) {
        int full = (1 << stops) - 1;
        Due.is("round of " + text, x.round(0, -1), round(full));
        for (int k = 0; k < 10; k++) {
            Due.is("round(0, " + k + ") of " + text, x.round(0, k), k < stops ? bestRow.get(k) : -1);
        }
        if (stops > 6) {
            return;
        }
        int best = Integer.MAX_VALUE;
        int bits = 0;
        for (int set = 0; set <= full; set++) {
            int last = Math.max(round(set), round(full ^ set));
            if (last < best) {
                best = last;
                bits = set;
            }
        }
        Due.is("vans of " + text, x.vans(0, false), best);
        Due.is("vans' STOPS of " + text, x.vans(0, true), bits);
    }

    // ---- GIVE, MEAN, SAFE, TELLS, LACK

    // N and D of what counts from a STOP on
    private BigInteger[] mean(int stop, int s) {
        BigInteger n = BigInteger.ZERO;
        BigInteger d = BigInteger.ONE;
        if (stop == stops) {
            return new BigInteger[] {n, d};
        }
        if (memo[stop][s] != null) {
            return memo[stop][s];
        }
        for (int come = least[stop]; come <= most[stop]; come++) {
            BigInteger[] one = afterGift(stop, s, come, gift(stop, s, come));
            n = n.multiply(one[1]).add(one[0].multiply(d));
            d = d.multiply(one[1]);
            BigInteger g = n.gcd(d);
            n = n.divide(g);
            d = d.divide(g);
        }
        memo[stop][s] = lowest(n, d.multiply(BigInteger.valueOf(most[stop] - least[stop] + 1)));
        return memo[stop][s];
    }

    private BigInteger[][][] memo;

    private static BigInteger[] lowest(BigInteger n, BigInteger d) {
        BigInteger g = n.gcd(d);
        return new BigInteger[] {n.divide(g), d.divide(g)};
    }

    private BigInteger[] afterGift(int stop, int s, int come, int gift) {
        BigInteger[] later = mean(stop + 1, s - gift);
        BigInteger here = BigInteger.valueOf((long) (come - gift) * (kind[stop] == 3 ? 2 : 1));
        return lowest(later[0].add(here.multiply(later[1])), later[1]);
    }

    private int gift(int stop, int s, int come) {
        int best = 0;
        BigInteger[] bestOne = afterGift(stop, s, come, 0);
        for (int g = 1; g <= Math.min(s, come); g++) {
            BigInteger[] one = afterGift(stop, s, come, g);
            if (one[0].multiply(bestOne[1]).compareTo(bestOne[0].multiply(one[1])) <= 0) {
                best = g;
                bestOne = one;
            }
        }
        return best;
    }

    private void bowls(SoupNine x, String text) {
        memo = new BigInteger[10][100][];
        int safe = 0;
        for (int s = 0; s < stops; s++) {
            safe += most[s];
        }
        Due.is("safe of " + text, x.safe(0), safe);
        for (int i = 0; i < 4; i++) {
            int s = random.nextInt(Math.min(100, safe + 3));
            int stop = random.nextInt(stops + 1);
            BigInteger[] due = mean(stop, s);
            Due.is("mean N of " + text, x.mean(0, stop, s, false), due[0].longValueExact());
            Due.is("mean D of " + text, x.mean(0, stop, s, true), due[1].longValueExact());
            lack(x, text, s);
            if (stop < stops) {
                for (int d = least[stop] - 1; d <= most[stop] + 1; d++) {
                    boolean may = d >= least[stop] && d <= most[stop];
                    Due.is("give of " + text, x.give(0, stop, s, d), may ? gift(stop, s, d) : -1);
                }
            }
            if (stops > 0) {
                int d = least[0] + random.nextInt(most[0] - least[0] + 1);
                BigInteger[] told = afterGift(0, s, d, gift(0, s, d));
                Due.is("tells N of " + text, x.tells(0, s, d, false), told[0].longValueExact());
                Due.is("tells D of " + text, x.tells(0, s, d, true), told[1].longValueExact());
            }
        }
    }

    private long waysWithMore(int stop, int left) {
        if (stop == stops) {
            return left < 0 ? 1 : 0;
        }
        long sum = 0;
        for (int come = least[stop]; come <= most[stop]; come++) {
            sum += waysWithMore(stop + 1, left - come);
        }
        return sum;
    }

    private void lack(SoupNine x, String text, int s) {
        if (stops > 3) {
            return;
        }
        long ways = 1;
        for (int stop = 0; stop < stops; stop++) {
            ways *= most[stop] - least[stop] + 1;
        }
        BigInteger[] due = lowest(BigInteger.valueOf(waysWithMore(0, s)), BigInteger.valueOf(ways));
        Due.is("lack N of " + text, x.lack(0, s, false), due[0].longValueExact());
        Due.is("lack D of " + text, x.lack(0, s, true), due[1].longValueExact());
    }

    // ---- DEPOT, TRAIL

    private void depot(SoupNine x, String text) {
        int best = Integer.MAX_VALUE;
        int place = 0;
        for (int y = 0; y < 10; y++) {
            for (int column = 0; column < 10; column++) {
                int sum = 0;
                for (int s = 0; s < stops; s++) {
                    sum += pace * (Math.abs(column - px[s]) + Math.abs(y - py[s])) * middle(s);
                }
                if (sum < best) {
                    best = sum;
                    place = 10 * y + column;
                }
            }
        }
        Due.is("depot of " + text, x.depot(0, false), place);
        Due.is("depot's minutes of " + text, x.depot(0, true), best);
    }

    private void trails(SoupNine x, String text) {
        for (int s = 0; s < stops; s++) {
            List<Integer> been = new ArrayList<>();
            int at = s;
            while (at >= 0 && !been.contains(at)) {
                been.add(at);
                at = to[at];
            }
            Due.is("trail of " + text, x.trail(0, s, false), been.size() - 1);
            Due.is("trail of " + text, x.trail(0, s, true), at >= 0 ? 1 : 0);
        }
    }

    // ---- evenings: who waits is a row of people, true: AGAIN

    private final List<List<Boolean>> rows = new ArrayList<>();
    private final int[] fedAt = new int[9];
    private final int[] wentOn = new int[9];
    private int minute, where, aboard, fed, warm, talked, fedAgain;

    private void begin() {
        rows.clear();
        for (int s = 0; s < stops; s++) {
            List<Boolean> row = new ArrayList<>();
            for (int i = 0; i < middle(s); i++) {
                row.add(false);
            }
            rows.add(row);
            fedAt[s] = 0;
            wentOn[s] = 0;
        }
        minute = fed = warm = talked = fedAgain = 0;
        where = -1;
        aboard = soup;
    }

    private boolean go(int kindOf, int number) {
        int takes = 0;
        switch (kindOf) {
            case 0:
                if (number >= stops) {
                    return false;
                }
                takes = drive(where, number);
                break;
            case 1:
                if (where < 0 || number > aboard || number > rows.get(where).size()) {
                    return false;
                }
                takes = number / 2 + number % 2;
                break;
            case 2:
                takes = number;
                break;
            case 3:
                if (where < 0) {
                    return false;
                }
                takes = talk;
                break;
            default:
                takes = drive(where, -1);
                break;
        }
        if (minute + takes > 300) {
            return false;
        }
        if (kindOf == 1) {
            feedThem(number);
        }
        minute += takes;
        where = kindOf == 0 ? number : kindOf == 4 ? -1 : where;
        talked += kindOf == 3 ? 1 : 0;
        return true;
    }

    private void feedThem(int number) {
        for (int i = 0; i < number; i++) {
            boolean isAgain = rows.get(where).remove(0);
            fed++;
            fedAt[where]++;
            aboard--;
            warm += minute < cold ? 1 : 0;
            fedAgain += isAgain ? 1 : 0;
            if (to[where] >= 0 && wentOn[where] < followers[where]) {
                wentOn[where]++;
                rows.get(to[where]).add(true);
            }
        }
    }

    private int[] answers() {
        int[] all = new int[41];
        java.util.Arrays.fill(all, -2);
        int[] first = {minute, where, aboard, fed, warm, talked, fedAgain};
        System.arraycopy(first, 0, all, 0, 7);
        for (int s = 0; s < stops; s++) {
            int agains = 0;
            for (boolean isAgain : rows.get(s)) {
                agains += isAgain ? 1 : 0;
            }
            all[10 + s] = rows.get(s).size();
            all[20 + s] = agains;
            all[30 + s] = fedAt[s];
        }
        return all;
    }

    private void evenings(SoupNine x, String text) {
        String[] words = {"drive ", "ladle ", "wait ", "talk", "return"};
        StringBuilder evening = new StringBuilder();
        int many = random.nextInt(41);
        int[][] deeds = new int[many][2];
        for (int k = 0; k < many; k++) {
            int by = random.nextInt(20);
            int kindOf = by < 6 ? 0 : by < 14 ? 1 : by < 15 ? 2 : by < 17 ? 3 : 4;
            int number = kindOf == 0 ? random.nextInt(stops == 0 ? 9 : by == 5 ? Math.min(9, stops + 1) : stops)
                    : kindOf == 1 ? 1 + random.nextInt(k < 4 ? 2 : 5) : 1 + random.nextInt(20);
            deeds[k][0] = kindOf;
            deeds[k][1] = number;
            evening.append(words[kindOf]);
            if (kindOf < 3) {
                evening.append(number);
            }
            evening.append(';');
        }
        Due.is("text", Due.tell(x, 1, x.count(1) == 0 ? -1 : 0, evening.toString()), 0);
        begin();
        int end = 0;
        check(x, 0, text + evening);
        while (end < many && go(deeds[end][0], deeds[end][1])) {
            end++;
            check(x, end, text + evening);
        }
        Due.is("till of " + text + evening, x.till(0, 0), end);
        Due.is("state of " + text + evening, x.state(0, 0, end + 1, 0), -2);
    }

    private void check(SoupNine x, int n, String text) {
        int[] due = answers();
        for (int what = -1; what < 42; what++) {
            Due.is("state(0, 0, " + n + ", " + what + ") of " + text, x.state(0, 0, n, what),
                    what < 0 || what > 40 ? -2 : due[what]);
        }
    }

    private int seed;

    private int draw(int n) {
        seed = seed * 1103515245 + 12345;
        return (seed >>> 16) % n;
    }

    private void drawnOnes(SoupNine x, String text) {
        int from = random.nextInt();
        int n = random.nextInt(61);
        seed = from;
        begin();
        for (int i = 0; i < n; i++) {
            int d = draw(8);
            if (d <= 2 && stops > 0) {
                go(0, draw(stops));
            } else if (d >= 3 && d <= 5) {
                go(1, 1 + draw(8));
            } else if (d > 5) {
                go(d == 6 ? 3 : 4, 0);
            }
        }
        int[] due = answers();
        for (int what = 0; what < 41; what++) {
            Due.is("drawn(0, " + from + ", " + n + ", " + what + ") of " + text, x.drawn(0, from, n, what), due[what]);
        }
    }
}
