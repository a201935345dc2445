import java.math.BigInteger;

/** Bowls to give and to keep back by all that may come: promises 10 to 12, 29 and 34, Terms 3 and 6. */
final class BowlEdges {
    private static final int MIN = Integer.MIN_VALUE;
    private static final int MAX = Integer.MAX_VALUE;
    private static final int[] NO_PLACES = {-1, -2, 1, 2, MIN, MAX};
    private static final int[] NO_SOUPS = {-1, -2, 100, 101, MIN, MAX};
    // what counts from STOP 1 on: 3 without soup, 1 by one bowl, 0 by two
    private static final String TWO = "even 0 0 0 2;last 0 0 1 2;";

    private BowlEdges() {
    }

    private static void give(SoupNine x, int stop, int s, int d, int due) {
        Due.is("give(0, " + stop + ", " + s + ", " + d + ")", x.give(0, stop, s, d), due);
    }

    private static void mean(SoupNine x, int stop, int s, long n, long d) {
        Due.is("mean(0, " + stop + ", " + s + ", false)", x.mean(0, stop, s, false), n);
        Due.is("mean(0, " + stop + ", " + s + ", true)", x.mean(0, stop, s, true), d);
    }

    private static void tells(SoupNine x, int s, int d, long n, long under) {
        Due.is("tells(0, " + s + ", " + d + ", false)", x.tells(0, s, d, false), n);
        Due.is("tells(0, " + s + ", " + d + ", true)", x.tells(0, s, d, true), under);
    }

    private static void lack(SoupNine x, int s, long n, long d) {
        Due.is("lack(0, " + s + ", false)", x.lack(0, s, false), n);
        Due.is("lack(0, " + s + ", true)", x.lack(0, s, true), d);
    }

    // in how many ways so many come together at STOPS to each of which 0 to 20 come
    private static long[] waysOfSums(int stops) {
        long[] ways = {1};
        for (int stop = 0; stop < stops; stop++) {
            long[] more = new long[ways.length + 20];
            for (int sum = 0; sum < ways.length; sum++) {
                for (int d = 0; d <= 20; d++) {
                    more[sum + d] += ways[sum];
                }
            }
            ways = more;
        }
        return ways;
    }

    private static long[] lowest(long n, long d) {
        long common = BigInteger.valueOf(n).gcd(BigInteger.valueOf(d)).longValueExact();
        return new long[] {n / common, d / common};
    }

    // ---- promise 10

    @Edge(promise = 10, says = {"GIVE.", "GIVE of a STOP k, soup s, 0 .. 99, d who came: how many to give there, of several the"
            + " most, so that what counts from there on is least in the mean;",
        "so many of them are given a bowl as one likes, as long as there is soup;"})
    static void giveNoMoreThanThereIsOrCome() {
        SoupNine x = Due.told(0, "even 0 0 0 20;");
        for (int s : new int[] {0, 1, 19, 20, 21, 99}) {
            for (int d : new int[] {0, 1, 19, 20}) {
                give(x, 0, s, d, Math.min(s, d));
            }
        }
        SoupNine none = Due.told(0, "even 0 0 0 0;");
        give(none, 0, 0, 0, 0);
        give(none, 0, 99, 0, 0);
    }

    @Edge(promise = 10, says = "of several the most, so that what counts from there on is least in the mean;")
    static void giveTheMostOfSeveral() {
        SoupNine x = Due.told(0, TWO);
        // d less what is given, and what counts from STOP 1 on by what is left
        give(x, 0, 0, 2, 0);
        give(x, 0, 1, 1, 0);
        give(x, 0, 2, 1, 1);
        give(x, 0, 2, 2, 1);
        give(x, 0, 3, 2, 2);
        give(x, 0, 4, 2, 2);
        Due.tell(x, 0, 0, "even 0 0 3 3;even 0 0 3 3;");
        give(x, 0, 3, 3, 3);
        give(x, 0, 2, 3, 2);
    }

    @Edge(promise = 10, says = {"who gets none counts 1 (at a LAST stop 2).", "STOPS by numbers: at each, of LEAST to MOST"
            + " people all as likely come, by itself;"})
    static void keepBackForALastStop() {
        SoupNine x = Due.told(0, "even 0 0 3 3;last 0 0 3 3;");
        int[] due = {0, 0, 0, 0, 1, 2, 3, 3};
        for (int s = 0; s < due.length; s++) {
            give(x, 0, s, 3, due[s]);
        }
        give(x, 0, 99, 3, 3);
        for (String kind : new String[] {"even", "crowded", "empty"}) {
            Due.tell(x, 0, 0, "even 0 0 3 3;" + kind + " 0 0 3 3;");
            give(x, 0, 3, 3, 3);
        }
        Due.tell(x, 0, 0, "last 0 0 3 3;last 0 0 3 3;");
        give(x, 0, 3, 3, 3);
        Due.tell(x, 0, 0, "last 0 0 3 3;even 0 0 3 3;");
        give(x, 0, 3, 3, 3);
    }

    @Edge(promise = 10, says = "(Of a TOWN; FOLLOWERS aside.)")
    static void followersAside() {
        SoupNine x = Due.told(0, TWO + "follow 0 1 9;follow 1 0 9;");
        give(x, 0, 2, 2, 1);
        give(x, 0, 3, 2, 2);
        mean(x, 0, 2, 1, 1);
        Due.is("safe", x.safe(0), 4);
        lack(x, 3, 1, 6);
    }

    @Edge(promise = 10, says = "NONE: not so many come there")
    static void giveToAsManyAsComeThere() {
        SoupNine x = Due.told(0, "even 0 0 3 5;even 0 0 0 0;even 0 0 20 20;");
        for (int d = -2; d < 25; d++) {
            give(x, 0, 99, d, d >= 3 && d <= 5 ? d : -1);
            give(x, 1, 99, d, d == 0 ? d : -1);
            give(x, 2, 99, d, d == 20 ? d : -1);
        }
        give(x, 0, 99, MIN, -1);
        give(x, 0, 99, MAX, -1);
    }

    @Edge(promise = 10, says = ", there is none such (of either)")
    static void giveOfNone() {
        SoupNine x = new SoupNine();
        give(x, 0, 0, 0, -1);
        Due.tell(x, 0, -1, "");
        give(x, 0, 0, 0, -1);
        Due.tell(x, 0, 0, "even 0 0 0 0;".repeat(3));
        give(x, 2, 0, 0, 0);
        for (int stop : new int[] {-1, -2, 3, 4, 8, 9, MIN, MAX}) {
            give(x, stop, 0, 0, -1);
        }
        for (int town : NO_PLACES) {
            Due.is("give(" + town + ", 0, 0, 0)", x.give(town, 0, 0, 0), -1);
        }
        Due.tell(x, 0, 0, "even 0 0 0 0;".repeat(9));
        give(x, 8, 0, 0, 0);
        give(x, 9, 0, 0, -1);
    }

    @Edge(promise = 10, says = ", or another s.")
    static void giveOfAnotherSoup() {
        SoupNine x = Due.told(0, TWO);
        give(x, 0, 0, 1, 0);
        give(x, 0, 99, 1, 1);
        for (int s : NO_SOUPS) {
            give(x, 0, s, 1, -1);
        }
    }

    // ---- promise 11

    @Edge(promise = 11, says = {"MEAN of soup s, 0 .. 99, from a STOP on", ", N, or (under) D.",
        "MEAN of soup s from STOP k on: that least mean, a fraction in least terms."})
    static void meanOfTwoStops() {
        SoupNine x = Due.told(0, TWO);
        mean(x, 0, 0, 4, 1);
        mean(x, 0, 1, 2, 1);
        mean(x, 0, 2, 1, 1);
        mean(x, 0, 3, 1, 3);
        mean(x, 0, 4, 0, 1);
        mean(x, 0, 99, 0, 1);
        mean(x, 1, 0, 3, 1);
        mean(x, 1, 1, 1, 1);
        mean(x, 1, 2, 0, 1);
    }

    @Edge(promise = 11, says = {"that least mean, a fraction in least terms.", "all as likely come, by itself;"})
    static void meanAtTheMostThatMayCome() {
        SoupNine x = Due.told(0, "last 0 0 20 20;".repeat(9));
        mean(x, 0, 0, 360, 1);
        mean(x, 0, 99, 162, 1);
        Due.tell(x, 0, 0, "even 0 0 0 20;".repeat(9));
        for (int s : new int[] {0, 1, 50, 98, 99}) {
            for (int stop = 0; stop <= 9; stop++) {
                long[] ways = waysOfSums(9 - stop);
                long n = 0;
                long d = 0;
                for (int sum = 0; sum < ways.length; sum++) {
                    n += Math.max(0, sum - s) * ways[sum];
                    d += ways[sum];
                }
                long[] due = lowest(n, d);
                mean(x, stop, s, due[0], due[1]);
            }
        }
    }

    @Edge(promise = 11, says = "(as many as STOPS: nothing comes)")
    static void meanBehindAllStops() {
        SoupNine x = Due.told(0, "");
        mean(x, 0, 0, 0, 1);
        mean(x, 0, 99, 0, 1);
        for (int stops = 1; stops <= 9; stops++) {
            Due.tell(x, 0, 0, "last 0 0 1 1;".repeat(stops));
            mean(x, stops, 0, 0, 1);
            mean(x, stops - 1, 0, 2, 1);
        }
    }

    @Edge(promise = 4, says = "in the place of one")
    static void meanOfATownInThePlaceOfOne() {
        for (int stops = 0; stops < 9; stops++) {
            SoupNine x = Due.told(0, "last 0 0 20 20;".repeat(9));
            mean(x, stops, 99, Math.max(0, 2 * (20 * (9 - stops) - 99)), 1);
            Due.tell(x, 0, 0, "even 0 0 1 1;".repeat(stops));
            mean(x, stops, 0, 0, 1);
            mean(x, stops, 99, 0, 1);
            mean(x, 0, 0, stops, 1);
            mean(x, 0, 99, 0, 1);
        }
    }

    @Edge(promise = 11, says = "NONE: there is none such (of either)")
    static void meanOfNone() {
        SoupNine x = new SoupNine();
        mean(x, 0, 0, -1, -1);
        Due.tell(x, 0, -1, TWO);
        for (int stop : new int[] {-1, -2, 3, 4, 9, 10, MIN, MAX}) {
            mean(x, stop, 0, -1, -1);
        }
        for (int town : NO_PLACES) {
            Due.is("mean(" + town + ", 0, 0, false)", x.mean(town, 0, 0, false), -1);
            Due.is("mean(" + town + ", 0, 0, true)", x.mean(town, 0, 0, true), -1);
        }
        Due.tell(x, 0, 0, "last 0 0 1 1;".repeat(9));
        mean(x, 9, 0, 0, 1);
        mean(x, 10, 0, -1, -1);
    }

    @Edge(promise = 11, says = ", or another s.")
    static void meanOfAnotherSoup() {
        SoupNine x = Due.told(0, TWO);
        for (int s : NO_SOUPS) {
            for (int stop = 0; stop <= 2; stop++) {
                mean(x, stop, s, -1, -1);
            }
        }
    }

    // ---- promise 12

    @Edge(promise = 12, says = {"SAFE (it may be above 99).", "SAFE: the fewest bowls for which nobody ever counts."})
    static void safeAtLeastAtMost() {
        Due.is("safe without STOPS", Due.told(0, "soup 9;").safe(0), 0);
        Due.is("safe, nobody comes", Due.told(0, "even 0 0 0 0;".repeat(9)).safe(0), 0);
        Due.is("safe of 99", Due.told(0, "even 0 0 0 20;".repeat(4) + "last 0 0 19 19;").safe(0), 99);
        Due.is("safe of 100", Due.told(0, "even 0 0 0 20;".repeat(4) + "last 0 0 20 20;").safe(0), 100);
        Due.is("safe of 180", Due.told(0, "empty 0 0 0 20;".repeat(9)).safe(0), 180);
        SoupNine x = Due.told(0, "even 0 0 2 5;crowded 0 0 1 6;empty 0 0 0 7;last 0 0 3 8;");
        Due.is("safe", x.safe(0), 26);
        mean(x, 0, 26, 0, 1);
        Due.is("one bowl fewer", x.mean(0, 0, 25, false) > 0, true);
    }

    @Edge(promise = 12, says = "NONE: there is none such.")
    static void safeOfNone() {
        SoupNine x = new SoupNine();
        Due.is("safe(0)", x.safe(0), -1);
        Due.tell(x, 0, -1, "");
        for (int town : NO_PLACES) {
            Due.is("safe(" + town + ")", x.safe(town), -1);
        }
    }

    // ---- promise 29

    @Edge(promise = 29, says = {"TELLS, N, or (under) D.",
        "TELLS of soup s, d who came to the first STOP (number 0): the mean of what counts in all then, by GIVE, a fraction in"
            + " least terms."})
    static void tellsOfTwoStops() {
        SoupNine x = Due.told(0, TWO);
        tells(x, 0, 0, 3, 1);
        tells(x, 0, 2, 5, 1);
        tells(x, 1, 0, 1, 1);
        tells(x, 1, 1, 2, 1);
        tells(x, 2, 1, 1, 1);
        tells(x, 2, 2, 2, 1);
        tells(x, 3, 2, 1, 1);
        tells(x, 99, 2, 0, 1);
        Due.tell(x, 0, 0, "even 0 0 0 1;even 0 0 0 2;");
        tells(x, 1, 0, 1, 3);
        tells(x, 1, 1, 1, 1);
        Due.tell(x, 0, 0, "last 0 0 0 20;");
        tells(x, 0, 20, 40, 1);
        tells(x, 99, 20, 0, 1);
        tells(x, 19, 20, 2, 1);
    }

    @Edge(promise = 29, says = "the mean of what counts in all then, by GIVE, a fraction in least terms.")
    static void tellsOfNineStops() {
        SoupNine x = Due.told(0, "even 0 0 0 20;".repeat(9));
        long[] ways = waysOfSums(8);
        for (int s : new int[] {0, 20, 98, 99}) {
            for (int d : new int[] {0, 1, 20}) {
                long n = 0;
                for (int sum = 0; sum < ways.length; sum++) {
                    n += Math.max(0, sum + d - s) * ways[sum];
                }
                // 21 to the 8th ways
                long[] due = lowest(n, 37822859361L);
                tells(x, s, d, due[0], due[1]);
            }
        }
    }

    @Edge(promise = 29, says = "NONE: not so many come there")
    static void tellsOfAsManyAsComeThere() {
        SoupNine x = Due.told(0, "even 0 0 3 5;even 0 0 0 20;");
        for (int d : new int[] {-1, 0, 1, 2, 6, 7, 20, MIN, MAX}) {
            tells(x, 99, d, -1, -1);
        }
        for (int d = 3; d <= 5; d++) {
            tells(x, 99, d, 0, 1);
        }
    }

    @Edge(promise = 29, says = ", no STOPS, there is none such")
    static void tellsOfNone() {
        SoupNine x = new SoupNine();
        tells(x, 0, 0, -1, -1);
        Due.tell(x, 0, -1, "");
        tells(x, 0, 0, -1, -1);
        Due.tell(x, 0, 0, "even 0 0 0 0;");
        tells(x, 0, 0, 0, 1);
        for (int town : NO_PLACES) {
            Due.is("tells(" + town + ", 0, 0, false)", x.tells(town, 0, 0, false), -1);
            Due.is("tells(" + town + ", 0, 0, true)", x.tells(town, 0, 0, true), -1);
        }
    }

    @Edge(promise = 29, says = ", or another s.")
    static void tellsOfAnotherSoup() {
        SoupNine x = Due.told(0, TWO);
        for (int s : NO_SOUPS) {
            tells(x, s, 0, -1, -1);
        }
    }

    // ---- promise 34

    @Edge(promise = 34, says = {"LACK of s, 0 .. 99, N, or (under) D.",
        "LACK of soup s: how likely more come than s, at all STOPS together, a fraction in least terms."})
    static void lackAtLeastAtMost() {
        SoupNine x = Due.told(0, TWO);
        // 1, 2, 2, 3, 3, 4 may come
        lack(x, 0, 1, 1);
        lack(x, 1, 5, 6);
        lack(x, 2, 1, 2);
        lack(x, 3, 1, 6);
        lack(x, 4, 0, 1);
        lack(x, 99, 0, 1);
        Due.tell(x, 0, 0, "");
        lack(x, 0, 0, 1);
        Due.tell(x, 0, 0, "even 0 0 0 0;".repeat(9));
        lack(x, 0, 0, 1);
        Due.tell(x, 0, 0, "last 0 0 20 20;".repeat(9));
        lack(x, 99, 1, 1);
        Due.tell(x, 0, 0, "even 0 0 0 20;".repeat(9));
        long[] ways = waysOfSums(9);
        for (int s : new int[] {0, 1, 50, 90, 98, 99}) {
            long more = 0;
            for (int sum = s + 1; sum < ways.length; sum++) {
                more += ways[sum];
            }
            long[] due = lowest(more, 794280046581L);
            lack(x, s, due[0], due[1]);
        }
    }

    @Edge(promise = 34, says = "NONE: another s")
    static void lackOfAnotherSoup() {
        SoupNine x = Due.told(0, TWO);
        for (int s : NO_SOUPS) {
            lack(x, s, -1, -1);
        }
    }

    @Edge(promise = 34, says = "or there is none such.")
    static void lackOfNone() {
        SoupNine x = new SoupNine();
        lack(x, 0, -1, -1);
        Due.tell(x, 0, -1, "");
        for (int town : NO_PLACES) {
            Due.is("lack(" + town + ", 0, false)", x.lack(town, 0, false), -1);
            Due.is("lack(" + town + ", 0, true)", x.lack(town, 0, true), -1);
        }
    }
}
