/** Ways to drive: promises 13 to 16 and 30 to 33, Terms 3 and 6. */
final class WayEdges {
    private static final int MIN = Integer.MIN_VALUE;
    private static final int MAX = Integer.MAX_VALUE;
    private static final int[] NO_PLACES = {-1, -2, 1, 2, MIN, MAX};
    // two at HOME, a minute to feed them; a minute to two more: she comes there at minute 2
    private static final String PAIR = "even 0 0 2 2;even 1 0 2 2;pace 1;";

    private WayEdges() {
    }

    private static void way(String town, int people, int minutes, int... row) {
        SoupNine x = Due.told(0, town);
        Due.is("way(0, -1) of " + town, x.way(0, -1), people);
        Due.is("way(0, -2) of " + town, x.way(0, -2), minutes);
        for (int k = 0; k < 10; k++) {
            Due.is("way(0, " + k + ") of " + town, x.way(0, k), k < row.length ? row[k] : -1);
        }
    }

    private static void round(String town, int minutes, int... row) {
        SoupNine x = Due.told(0, town);
        Due.is("round(0, -1) of " + town, x.round(0, -1), minutes);
        for (int k = 0; k < 10; k++) {
            Due.is("round(0, " + k + ") of " + town, x.round(0, k), k < row.length ? row[k] : -1);
        }
    }

    // ---- promise 13

    @Edge(promise = 13, says = {"WAY: how many people (k NONE), or the k-th STOP of the row; k -2: the minutes.",
        "WAY: from HOME at minute 0 STOPS one behind the other, where anybody comes in the middle (2.);"})
    static void wayWithoutAnybody() {
        way("", 0, 0);
        way("even 0 0 0 0;", 0, 0);
        way("even 0 0 0 1;", 0, 0);
        way("last 0 0 0 1;", 0, 0);
        way("empty 0 0 0 20;", 0, 0);
        way("even 0 0 0 1;even 0 0 0 2;empty 0 0 0 20;crowded 0 0 0 1;", 2, 2, 1, 3);
    }

    @Edge(promise = 13, says = "at each all of these are fed, a minute for two (begun ones, too), who are WARM, if she comes"
            + " ahead of COLD;")
    static void wayUpToCold() {
        way("even 5 0 3 3;pace 1;cold 6;", 3, 7, 0);
        way("even 5 0 3 3;pace 1;cold 5;", 0, 0);
        way("even 0 0 20 20;cold 1;", 20, 10, 0);
        way("even 0 0 20 20;cold 0;", 0, 0);
        // 8 and 8 steps, 6 minutes each
        way("even 8 8 1 1;pace 6;cold 97;", 1, 97, 0);
        way("even 8 8 1 1;pace 6;cold 96;", 0, 0);
        way(PAIR + "cold 3;", 4, 3, 0, 1);
        way(PAIR + "cold 2;", 2, 1, 0);
        way("even 0 0 3 3;even 0 0 1 1;cold 3;", 4, 3, 0, 1);
        way("even 0 0 3 3;even 0 0 1 1;cold 2;", 4, 3, 1, 0);
        way("even 0 0 3 3;even 0 0 1 1;cold 1;", 3, 2, 0);
    }

    @Edge(promise = 13, says = "SOUP aside: of rows by which all are WARM those by which most people are;")
    static void wayByMostPeople() {
        way("even 0 0 9 9;soup 0;", 9, 5, 0);
        way("home 5 5;even 5 4 1 1;even 5 9 2 2;pace 1;cold 8;", 3, 8, 0, 1);
        way("home 5 5;even 5 4 1 1;even 5 9 2 2;pace 1;cold 7;", 2, 5, 1);
        // the nearer one has fewer, and there is no time for both
        way("home 5 5;even 3 5 4 4;even 9 5 5 5;pace 1;cold 5;", 5, 7, 1);
        way("home 5 5;even 3 5 5 5;even 9 5 5 5;pace 1;cold 5;", 5, 5, 0);
        // one with many, or two with more together
        way("home 5 5;even 0 5 5 5;even 7 5 3 3;even 9 5 3 3;pace 1;cold 7;", 6, 8, 1, 2);
        way("home 5 5;even 0 5 7 7;even 7 5 3 3;even 9 5 3 3;pace 1;cold 7;", 7, 9, 0);
    }

    @Edge(promise = 13, says = "of these those that are done at the fewest minutes;")
    static void wayByFewestMinutes() {
        way("even 2 0 1 1;even 1 0 1 1;pace 1;", 2, 4, 1, 0);
        way("home 1 0;even 0 0 1 1;even 3 0 1 1;pace 1;", 2, 6, 0, 1);
        way("home 2 0;even 0 0 1 1;even 3 0 1 1;pace 1;", 2, 6, 1, 0);
        // as many people, a minute more to feed two of one each
        way("home 5 5;even 4 5 1 1;even 4 5 1 1;even 6 5 2 2;pace 1;cold 3;", 2, 2, 2);
    }

    @Edge(promise = 13, says = "of these the first by numbers.")
    static void wayByNumbers() {
        way("even 1 0 1 1;even 0 1 1 1;pace 1;", 2, 5, 0, 1);
        way("home 5 5;even 9 5 2 2;even 1 5 2 2;pace 1;cold 5;", 2, 5, 0);
        way("last 0 0 1 1;".repeat(4), 4, 4, 0, 1, 2, 3);
        // either of two that are alike, then the one behind it
        way("even 0 5 1 1;even 0 5 1 1;even 0 6 1 1;pace 1;cold 7;", 2, 7, 0, 1);
        way("home 0 4;even 0 5 2 2;even 0 3 1 1;even 0 3 1 1;pace 1;cold 5;", 3, 5, 0, 1);
        way("home 0 4;even 0 5 1 1;even 0 5 1 1;even 0 3 2 2;pace 1;cold 5;", 3, 5, 0, 2);
    }

    @Edge(promise = 13, says = "WAY: how many people (k NONE), or the k-th STOP of the row; k -2: the minutes.")
    static void wayOfNineStops() {
        way("last 0 0 20 20;".repeat(9) + "cold 81;", 180, 90, 0, 1, 2, 3, 4, 5, 6, 7, 8);
        way("last 0 0 20 20;".repeat(9) + "cold 80;", 160, 80, 0, 1, 2, 3, 4, 5, 6, 7);
    }

    @Edge(promise = 13, says = "NONE: there is none such (of either).")
    static void wayOfNone() {
        SoupNine x = new SoupNine();
        Due.is("way(0, -1)", x.way(0, -1), -1);
        Due.is("way(0, -2)", x.way(0, -2), -1);
        Due.tell(x, 0, -1, PAIR);
        Due.is("way(0, 1)", x.way(0, 1), 1);
        for (int k : new int[] {-3, -4, 2, 3, 9, MIN, MAX}) {
            Due.is("way(0, " + k + ")", x.way(0, k), -1);
        }
        for (int town : NO_PLACES) {
            for (int k = -2; k < 2; k++) {
                Due.is("way(" + town + ", " + k + ")", x.way(town, k), -1);
            }
        }
    }

    @Edge(promise = 4, says = "in the place of one")
    static void wayOfATownInThePlaceOfOne() {
        SoupNine x = new SoupNine();
        String[] towns = {"last 0 0 20 20;".repeat(9) + "cold 99;", "", PAIR + "cold 2;", "last 0 0 0 0;last 0 0 1 1;last 0 0 0 0;",
            "even 0 0 0 0;".repeat(9), "home 5 5;even 9 5 2 2;even 1 5 2 2;pace 1;cold 5;", "even 0 0 1 1;cold 0;", PAIR};
        int[][] due = {{180, 90, 9}, {0, 0, 0}, {2, 1, 1}, {1, 1, 1}, {0, 0, 0}, {2, 5, 1}, {0, 0, 0}, {4, 3, 2}};
        for (int i = 0; i < towns.length * 3; i++) {
            int k = i * 5 % towns.length;
            Due.tell(x, 0, i == 0 ? -1 : 0, towns[k]);
            Due.is("way(0, -1) of " + towns[k], x.way(0, -1), due[k][0]);
            Due.is("way(0, -2) of " + towns[k], x.way(0, -2), due[k][1]);
            Due.is("the row's last", x.way(0, due[k][2] - 1) >= (due[k][2] == 0 ? -1 : 0), true);
            Due.is("behind the row", x.way(0, due[k][2]), -1);
            Due.is("talks", x.talks(0) < 0, due[k][0] == 0);
        }
    }

    // ---- promise 14

    @Edge(promise = 14, says = {"ROUND: the minutes (k NONE), or the k-th STOP.",
        "ROUND: the fewest minutes of driving from HOME to all STOPS and home; the first row by numbers."})
    static void roundAtLeastAtMost() {
        round("", 0);
        round("home 3 3;even 3 3 1 1;", 0, 0);
        round("even 9 9 0 0;pace 9;cold 0;", 324, 0);
        round("last 0 0 0 0;".repeat(9), 0, 0, 1, 2, 3, 4, 5, 6, 7, 8);
        round("even 1 0 0 0;even 1 1 9 9;even 0 1 0 0;pace 1;", 4, 0, 1, 2);
        round("even 1 1 0 0;even 0 1 9 9;even 1 0 0 0;pace 1;", 4, 1, 0, 2);
        // to the far end and back again, or some on the way there
        round("even 3 0 0 0;even 1 0 0 0;even 2 0 0 0;pace 1;", 6, 0, 2, 1);
        round("even 1 0 0 0;even 2 0 0 0;even 3 0 0 0;pace 1;", 6, 0, 1, 2);
    }

    @Edge(promise = 14, says = "NONE: there is none such (of either).")
    static void roundOfNone() {
        SoupNine x = new SoupNine();
        Due.is("round(0, -1)", x.round(0, -1), -1);
        Due.tell(x, 0, -1, PAIR);
        Due.is("round(0, 1)", x.round(0, 1), 1);
        for (int k : new int[] {-2, -3, 2, 3, 9, MIN, MAX}) {
            Due.is("round(0, " + k + ")", x.round(0, k), -1);
        }
        for (int town : NO_PLACES) {
            Due.is("round(" + town + ", -1)", x.round(town, -1), -1);
            Due.is("round(" + town + ", 0)", x.round(town, 0), -1);
        }
    }

    // ---- promise 15

    private static void talks(String town, int due) {
        Due.is("talks(0) of " + town, Due.told(0, town).talks(0), due);
    }

    @Edge(promise = 15, says = {"TALKS.",
        "TALKS: how many times, 9 at most, she may TALK at the first STOP of the row told by WAY, behind its people, so that all"
            + " are still fed WARM."})
    static void talksAtLeastAtMost() {
        talks(PAIR + "cold 3;talk 1;", 0);
        talks(PAIR + "cold 4;talk 1;", 1);
        talks(PAIR + "cold 12;talk 5;", 1);
        talks(PAIR + "cold 13;talk 5;", 2);
        talks(PAIR + "cold 32;talk 30;", 0);
        talks(PAIR + "cold 33;talk 30;", 1);
        talks(PAIR + "cold 11;talk 1;", 8);
        talks(PAIR + "cold 12;talk 1;", 9);
        talks(PAIR + "cold 13;talk 1;", 9);
        talks(PAIR + "cold 99;talk 1;", 9);
        talks("even 0 0 1 1;cold 1;talk 30;", 9);
        talks("even 5 0 20 20;pace 1;cold 6;talk 30;", 9);
    }

    @Edge(promise = 15, says = "NONE: nobody can be fed WARM")
    static void talksOfNobody() {
        talks("", -1);
        talks("even 0 0 1 1;cold 0;", -1);
        talks("even 5 0 1 1;pace 1;cold 5;", -1);
        talks("even 0 0 0 0;", -1);
        talks("even 0 0 0 1;", -1);
        talks("empty 0 0 0 20;", -1);
    }

    @Edge(promise = 15, says = "or there is none such.")
    static void talksOfNone() {
        SoupNine x = new SoupNine();
        Due.is("talks(0)", x.talks(0), -1);
        Due.tell(x, 0, -1, PAIR);
        Due.is("talks(0)", x.talks(0), 6);
        for (int town : NO_PLACES) {
            Due.is("talks(" + town + ")", x.talks(town), -1);
        }
    }

    // ---- promise 16

    private static void lost(String town, int... due) {
        SoupNine x = Due.told(0, town);
        for (int s = 0; s < due.length; s++) {
            Due.is("lost(0, " + s + ") of " + town, x.lost(0, s), due[s]);
        }
        Due.is("lost behind all STOPS", x.lost(0, due.length), -1);
    }

    @Edge(promise = 16, says = {"LOST.", "LOST of a STOP: how many fewer are fed WARM by WAY, if nobody comes there."})
    static void lostAtLeastAtMost() {
        lost("");
        lost("even 0 0 20 20;", 20);
        lost("even 0 0 0 1;", 0);
        lost("even 0 0 20 20;cold 0;", 0);
        lost(PAIR, 2, 2);
        // one of both alone may be: without the better one the other is
        lost("home 5 5;even 3 5 4 4;even 9 5 5 5;pace 1;cold 5;", 0, 1);
        lost("home 5 5;even 3 5 5 5;even 9 5 5 5;pace 1;cold 5;", 0, 0);
        lost("last 0 0 20 20;".repeat(9) + "cold 70;", 0, 0, 0, 0, 0, 0, 0, 0, 0);
        lost("last 0 0 20 20;".repeat(9) + "cold 80;", 0, 0, 0, 0, 0, 0, 0, 0, 0);
        lost("last 0 0 20 20;".repeat(9) + "cold 81;", 20, 20, 20, 20, 20, 20, 20, 20, 20);
    }

    @Edge(promise = 16, says = "NONE: there is none such (of either).")
    static void lostOfNone() {
        SoupNine x = new SoupNine();
        Due.is("lost(0, 0)", x.lost(0, 0), -1);
        Due.tell(x, 0, -1, PAIR);
        for (int stop : new int[] {-1, -2, 2, 3, 9, MIN, MAX}) {
            Due.is("lost(0, " + stop + ")", x.lost(0, stop), -1);
        }
        for (int town : NO_PLACES) {
            Due.is("lost(" + town + ", 0)", x.lost(town, 0), -1);
        }
    }

    // ---- promise 30

    private static void depot(String town, int place, int minutes) {
        SoupNine x = Due.told(0, town);
        Due.is("depot(0, false) of " + town, x.depot(0, false), place);
        Due.is("depot(0, true) of " + town, x.depot(0, true), minutes);
    }

    @Edge(promise = 30, says = {"DEPOT: the place, or (minutes) how many.", "(Of a TOWN.)",
        "DEPOT: the place (10 times y, and x) from which minutes of driving to all STOPS, each times those who come there in the"
            + " middle, are fewest together"})
    static void depotAtLeastAtMost() {
        depot("home 9 9;", 0, 0);
        depot("even 5 5 0 1;empty 7 7 0 20;", 0, 0);
        depot("even 3 4 1 1;", 43, 0);
        depot("even 9 9 1 1;", 99, 0);
        depot("even 0 0 1 1;", 0, 0);
        depot("even 9 0 1 1;", 9, 0);
        depot("even 0 9 1 1;", 90, 0);
        // one, or two, nine steps away
        depot("even 0 0 1 1;even 9 0 2 2;pace 9;", 9, 81);
        depot("even 0 0 2 3;even 9 0 3 3;pace 9;", 9, 162);
        depot("even 0 0 3 3;crowded 9 9 0 20;pace 9;", 99, 486);
        depot("crowded 0 0 0 20;crowded 9 9 0 20;pace 9;", 0, 3240);
        // nine STOPS: five and four of twenty each, 18 steps apart
        depot("crowded 0 0 0 20;".repeat(5) + "crowded 9 9 0 20;".repeat(4) + "pace 9;", 0, 12960);
        depot("crowded 0 0 0 20;".repeat(4) + "crowded 9 9 0 20;".repeat(5) + "pace 9;", 99, 12960);
    }

    @Edge(promise = 30, says = "the place (10 times y, and x)")
    static void depotAtEachPlace() {
        for (int place = 0; place < 100; place++) {
            depot("home 5 5;even " + place % 10 + " " + place / 10 + " 1 1;", place, 0);
        }
    }

    @Edge(promise = 30, says = ", of several the least; how many.")
    static void depotTheLeastOfSeveral() {
        depot("even 3 3 1 1;even 5 3 1 1;pace 1;", 33, 2);
        depot("even 3 5 1 1;even 3 3 1 1;pace 1;", 33, 2);
        depot("even 5 3 1 1;even 3 5 1 1;pace 1;", 33, 4);
        depot("even 9 8 1 1;even 9 9 1 1;pace 1;", 89, 1);
    }

    @Edge(promise = 30, says = "NONE: there is none such.")
    static void depotOfNone() {
        SoupNine x = new SoupNine();
        Due.is("depot(0, false)", x.depot(0, false), -1);
        Due.tell(x, 0, -1, PAIR);
        for (int town : NO_PLACES) {
            Due.is("depot(" + town + ", false)", x.depot(town, false), -1);
            Due.is("depot(" + town + ", true)", x.depot(town, true), -1);
        }
    }

    // ---- promise 31

    private static void vans(String town, int minutes, int stops) {
        SoupNine x = Due.told(0, town);
        Due.is("vans(0, false) of " + town, x.vans(0, false), minutes);
        Due.is("vans(0, true) of " + town, x.vans(0, true), stops);
    }

    @Edge(promise = 31, says = {"VANS: the minutes, or (stops) the STOPS.",
        "VANS: two vans share the STOPS, each drives from HOME to all of its own and home, by the fewest minutes: the least"
            + " minutes of the one that is home last;"})
    static void vansAtLeastAtMost() {
        vans("", 0, 0);
        vans("home 2 2;even 2 2 0 0;", 0, 0);
        vans("even 9 9 0 0;pace 9;", 324, 0);
        vans("last 0 0 0 0;".repeat(9), 0, 0);
        vans("home 5 5;even 5 7 0 0;even 5 3 0 0;pace 1;", 4, 1);
        vans("home 5 5;even 5 7 0 0;even 5 3 0 0;even 7 5 0 0;pace 1;", 8, 1);
        // the one that is home last goes to the far one, whoever goes to the near one
        vans("home 5 5;even 5 6 0 0;even 9 9 0 0;pace 1;", 16, 0);
        vans("home 5 5;even 5 4 0 0;even 9 9 0 0;pace 1;", 16, 1);
    }

    @Edge(promise = 31, says = "the STOPS (bits) of the first one, of several the least.")
    static void vansTheLeastOfSeveral() {
        vans("home 5 5;even 9 9 0 0;even 5 4 0 0;pace 1;", 16, 1);
        vans("home 5 5;even 9 9 0 0;even 9 9 0 0;even 5 4 0 0;even 5 4 0 0;pace 1;", 16, 3);
        vans("home 5 0;" + "even 0 0 0 0;even 9 0 0 0;".repeat(4) + "even 9 0 0 0;pace 1;", 10, 85);
    }

    @Edge(promise = 31, says = "NONE: there is none such.")
    static void vansOfNone() {
        SoupNine x = new SoupNine();
        Due.is("vans(0, false)", x.vans(0, false), -1);
        Due.tell(x, 0, -1, PAIR);
        for (int town : NO_PLACES) {
            Due.is("vans(" + town + ", false)", x.vans(town, false), -1);
            Due.is("vans(" + town + ", true)", x.vans(town, true), -1);
        }
    }

    // ---- promise 32

    private static void trail(String follows, int stop, int others, int again) {
        SoupNine x = Due.told(0, "last 0 0 0 0;".repeat(9) + follows);
        Due.is("trail(0, " + stop + ", false) of " + follows, x.trail(0, stop, false), others);
        Due.is("trail(0, " + stop + ", true) of " + follows, x.trail(0, stop, true), again);
    }

    @Edge(promise = 32, says = {"TRAIL: how many, or (again) 1 if he comes to one again, else 0.",
        "TRAIL of a STOP: how many other STOPS one comes to who goes on from STOP to STOP by FOLLOWERS told (also by 0 of them);"
            + " whether he comes to one again."})
    static void trailAtLeastAtMost() {
        trail("", 0, 0, 0);
        trail("", 8, 0, 0);
        trail("follow 0 8 0;", 0, 1, 0);
        trail("follow 0 8 9;", 8, 0, 0);
        StringBuilder row = new StringBuilder();
        for (int s = 0; s < 8; s++) {
            row.append("follow ").append(s).append(' ').append(s + 1).append(" 0;");
        }
        for (int s = 0; s < 9; s++) {
            trail(row.toString(), s, 8 - s, 0);
            trail(row + "follow 8 0 1;", s, 8, 1);
            trail(row + "follow 8 7 1;", s, Math.max(1, 8 - s), 1);
        }
        trail("follow 3 4 0;follow 4 3 0;", 3, 1, 1);
        trail("follow 3 4 0;follow 4 3 0;", 4, 1, 1);
        trail("follow 3 4 0;follow 4 3 0;follow 5 3 1;", 5, 2, 1);
        trail("follow 3 4 0;follow 4 3 0;follow 5 6 1;", 5, 1, 0);
    }

    @Edge(promise = 32, says = "NONE: there is none such (of either).")
    static void trailOfNone() {
        SoupNine x = new SoupNine();
        Due.is("trail(0, 0, false)", x.trail(0, 0, false), -1);
        Due.tell(x, 0, -1, "");
        Due.is("trail(0, 0, false) without STOPS", x.trail(0, 0, false), -1);
        Due.is("trail(0, 0, true) without STOPS", x.trail(0, 0, true), -1);
        Due.tell(x, 0, 0, PAIR + "follow 0 1 1;");
        for (int stop : new int[] {-1, -2, 2, 3, 9, MIN, MAX}) {
            Due.is("trail(0, " + stop + ", false)", x.trail(0, stop, false), -1);
            Due.is("trail(0, " + stop + ", true)", x.trail(0, stop, true), -1);
        }
        for (int town : NO_PLACES) {
            Due.is("trail(" + town + ", 0, false)", x.trail(town, 0, false), -1);
            Due.is("trail(" + town + ", 0, true)", x.trail(town, 0, true), -1);
        }
    }

    // ---- promise 33

    private static void chat(String town, int people, int stops) {
        SoupNine x = Due.told(0, town);
        Due.is("chat(0, false) of " + town, x.chat(0, false), people);
        Due.is("chat(0, true) of " + town, x.chat(0, true), stops);
    }

    @Edge(promise = 33, says = {"CHAT: how many people, or (stops) the STOPS.",
        "CHAT: of the STOPS of the row told by WAY some, at each of which she TALKS once behind its people, so that all are"
            + " still fed WARM"})
    static void chatUpToCold() {
        chat("", 0, 0);
        chat("even 0 0 1 1;cold 0;", 0, 0);
        chat("even 0 0 0 1;", 0, 0);
        chat("even 0 0 1 1;cold 1;talk 30;", 1, 1);
        chat(PAIR + "cold 8;talk 5;", 4, 3);
        chat(PAIR + "cold 7;talk 5;", 2, 2);
        chat(PAIR + "cold 2;talk 5;", 2, 1);
        // the first one is in no row
        chat("even 9 9 9 9;even 0 0 1 1;pace 9;", 1, 2);
        chat("last 0 0 20 20;".repeat(9) + "cold 89;talk 1;", 180, 511);
        chat("last 0 0 20 20;".repeat(9) + "cold 81;talk 1;", 20, 256);
    }

    @Edge(promise = 33, says = ", and so that as many people as can be come in the middle at these together;")
    static void chatWithAsManyPeopleAsCanBe() {
        // by four minutes she comes to the last one, by one talk at minute 9, by two at 14
        chat("even 0 0 2 2;even 0 0 6 6;even 0 0 1 1;cold 10;talk 5;", 7, 6);
        chat("even 0 0 6 6;even 0 0 2 2;even 0 0 1 1;cold 10;talk 5;", 7, 5);
        chat("even 0 0 6 6;even 0 0 2 2;even 0 0 1 1;cold 15;talk 5;", 9, 7);
    }

    @Edge(promise = 33, says = "the STOPS (bits), of several the least.")
    static void chatTheLeastOfSeveral() {
        chat("even 0 0 2 2;even 0 0 2 2;even 0 0 2 2;cold 8;talk 5;", 4, 5);
        chat("even 0 0 2 2;".repeat(5) + "cold 15;talk 5;", 6, 19);
    }

    @Edge(promise = 33, says = "NONE: there is none such.")
    static void chatOfNone() {
        SoupNine x = new SoupNine();
        Due.is("chat(0, false)", x.chat(0, false), -1);
        Due.tell(x, 0, -1, PAIR);
        for (int town : NO_PLACES) {
            Due.is("chat(" + town + ", false)", x.chat(town, false), -1);
            Due.is("chat(" + town + ", true)", x.chat(town, true), -1);
        }
    }
}
