/** What was told of towns and evenings, evenings deed by deed and by a seed: promises 6 to 9 and 28, Terms 2 and 5. */
final class EveningEdges {
    private static final int MIN = Integer.MIN_VALUE;
    private static final int MAX = Integer.MAX_VALUE;
    private static final int[] NO_PLACES = {-1, -2, 1, 2, MIN, MAX};

    private EveningEdges() {
    }

    private static SoupNine told(String town, String evening) {
        SoupNine x = Due.told(0, town);
        Due.is("text of " + evening, Due.tell(x, 1, -1, evening), 0);
        return x;
    }

    private static void end(String town, String evening, int end) {
        SoupNine x = told(town, evening);
        Due.is("till of " + town + " " + evening, x.till(0, 0), end);
        Due.is("there is a STATE at END", x.state(0, 0, end, 0) >= 0, true);
        Due.is("there is no STATE behind END", x.state(0, 0, end + 1, 0), -2);
    }

    private static void state(SoupNine x, int n, int what, int due) {
        Due.is("state(0, 0, " + n + ", " + what + ")", x.state(0, 0, n, what), due);
    }

    // ---- promise 6

    @Edge(promise = 6, says = {"Of a TOWN, what 0, 1: HOME's x, y, 2: SOUP, 3: PACE, 4: COLD, 5: TALK, 6: STOPS",
        "A TOWN has a HOME, x, y, 0 .. 9 each (0, 0 at first);", "SOUP, 0 .. 99 bowls (60);", "PACE, 1 .. 9 minutes for each"
            + " step (2);",
        "COLD, 0 .. 99: the minute from which soup is cold (60);", "TALK, 1 .. 30 minutes (9)."})
    static void townAtFirstAtLeastAtMost() {
        SoupNine x = new SoupNine();
        String[] texts = {"", "home 0 0;soup 0;pace 1;cold 0;talk 1;even 0 0 0 0;",
            "home 9 8;soup 99;pace 9;cold 98;talk 30;" + "last 9 9 20 20;".repeat(9)};
        int[][] due = {{0, 0, 60, 2, 60, 9, 0}, {0, 0, 0, 1, 0, 1, 1}, {9, 8, 99, 9, 98, 30, 9}};
        for (int i = 0; i < 3; i++) {
            Due.tell(x, 0, i == 0 ? -1 : 0, texts[i]);
            for (int what = 0; what < 7; what++) {
                Due.is("town(0, " + what + ") of " + texts[i], x.town(0, what), due[i][what]);
            }
        }
    }

    @Edge(promise = 6, says = {"10 + s .. 50 + s by tens: KIND, x, y, LEAST, MOST of a STOP",
        "60 + s: FOLLOWERS, 70 + s: to which STOP (NONE: to none)."})
    static void townOfNineStops() {
        StringBuilder text = new StringBuilder();
        String[] kinds = {"even", "crowded", "empty", "last"};
        for (int s = 0; s < 9; s++) {
            text.append(kinds[s % 4]).append(' ').append(s).append(' ').append(9 - s).append(' ');
            text.append(2 * s).append(' ').append(2 * s + 3).append(';');
        }
        text.append("follow 8 0 9;follow 0 8 0;");
        SoupNine x = Due.told(0, text.toString());
        for (int s = 0; s < 9; s++) {
            int[] due = {s % 4, s, 9 - s, 2 * s, 2 * s + 3, s == 8 ? 9 : 0, s == 8 ? 0 : s == 0 ? 8 : -1};
            for (int tens = 1; tens < 8; tens++) {
                Due.is("town(0, " + (10 * tens + s) + ")", x.town(0, 10 * tens + s), due[tens - 1]);
            }
        }
    }

    @Edge(promise = 6, says = "-2: there is none such (of any)")
    static void townOfNone() {
        SoupNine x = new SoupNine();
        Due.is("town(0, 0) of a new object", x.town(0, 0), -2);
        Due.tell(x, 0, -1, "last 0 0 0 0;".repeat(3));
        for (int town : NO_PLACES) {
            Due.is("town(" + town + ", 0)", x.town(town, 0), -2);
            Due.is("town(" + town + ", 10)", x.town(town, 10), -2);
        }
        for (int tens = 1; tens < 8; tens++) {
            Due.is("the last STOP there is", x.town(0, 10 * tens + 2) != -2, true);
            for (int s = 3; s < 10; s++) {
                Due.is("town(0, " + (10 * tens + s) + ")", x.town(0, 10 * tens + s), -2);
            }
        }
    }

    @Edge(promise = 6, says = "or for another what.")
    static void townOfAnotherWhat() {
        SoupNine x = Due.told(0, "last 0 0 0 0;".repeat(9));
        for (int what : new int[] {-1, -2, -10, 7, 8, 9, 19, 29, 39, 49, 59, 69, 79, 80, 81, 88, 90, 100, 110, MIN, MAX}) {
            Due.is("town(0, " + what + ")", x.town(0, what), -2);
        }
    }

    // ---- promise 7

    @Edge(promise = 7, says = {"How many DEEDS (k NONE, what 0);", "of DEED k, what 0: 0 drive, 1 ladle, 2 wait, 3 talk, 4"
            + " return",
        "1: its number (NONE without).", "An EVENING has DEEDS, at most 40, from 0 on."})
    static void deedsOfEachKind() {
        SoupNine x = Due.told(1, "");
        Due.is("no DEEDS", x.deed(0, -1, 0), 0);
        Due.tell(x, 1, 0, "drive 0;ladle 1;wait 1;talk;return;drive 8;ladle 40;wait 60;".repeat(5));
        Due.is("DEEDS", x.deed(0, -1, 0), 40);
        int[] kinds = {0, 1, 2, 3, 4, 0, 1, 2};
        int[] numbers = {0, 1, 1, -1, -1, 8, 40, 60};
        for (int k = 0; k < 40; k++) {
            Due.is("deed(0, " + k + ", 0)", x.deed(0, k, 0), kinds[k % 8]);
            Due.is("deed(0, " + k + ", 1)", x.deed(0, k, 1), numbers[k % 8]);
        }
    }

    @Edge(promise = 7, says = "-2: there is none such (of either)")
    static void deedOfNone() {
        SoupNine x = new SoupNine();
        Due.is("deed(0, -1, 0) of a new object", x.deed(0, -1, 0), -2);
        Due.tell(x, 1, -1, "");
        Due.is("deed(0, 0, 0) without DEEDS", x.deed(0, 0, 0), -2);
        Due.tell(x, 1, 0, "talk;".repeat(40));
        for (int evening : NO_PLACES) {
            Due.is("deed(" + evening + ", -1, 0)", x.deed(evening, -1, 0), -2);
            Due.is("deed(" + evening + ", 0, 0)", x.deed(evening, 0, 0), -2);
        }
        for (int k : new int[] {-2, -3, 40, 41, MIN, MAX}) {
            Due.is("deed(0, " + k + ", 0)", x.deed(0, k, 0), -2);
            Due.is("deed(0, " + k + ", 1)", x.deed(0, k, 1), -2);
        }
    }

    @Edge(promise = 7, says = "or for another what.")
    static void deedOfAnotherWhat() {
        SoupNine x = Due.told(1, "talk;");
        for (int what : new int[] {-1, -2, 2, 3, MIN, MAX}) {
            Due.is("deed(0, 0, " + what + ")", x.deed(0, 0, what), -2);
            Due.is("deed(0, -1, " + what + ")", x.deed(0, -1, what), -2);
        }
        Due.is("deed(0, -1, 1)", x.deed(0, -1, 1), -2);
    }

    // ---- promise 8: what can't be

    @Edge(promise = 8, says = {"END.", "END: the first DEED that can't be, else how many there are."})
    static void endOfAllSome() {
        end("", "", 0);
        end("", "talk;", 0);
        end("", "wait 1;talk;wait 1;", 1);
        end("", "wait 1;".repeat(40), 40);
        end("", "wait 1;".repeat(39) + "talk;", 39);
    }

    @Edge(promise = 8, says = "NONE: there is none such (of either).")
    static void tillOfNone() {
        SoupNine x = new SoupNine();
        Due.is("till(0, 0) of a new object", x.till(0, 0), -1);
        Due.tell(x, 0, -1, "");
        Due.is("till(0, 0) without EVENINGS", x.till(0, 0), -1);
        Due.tell(x, 1, -1, "");
        Due.is("till(0, 0)", x.till(0, 0), 0);
        for (int k : NO_PLACES) {
            Due.is("till(" + k + ", 0)", x.till(k, 0), -1);
            Due.is("till(0, " + k + ")", x.till(0, k), -1);
        }
        SoupNine y = Due.told(1, "");
        Due.is("till(0, 0) without TOWNS", y.till(0, 0), -1);
    }

    @Edge(promise = 8, says = {"drive: to a STOP (she may be there)", "A DEED can't be, if there is no such STOP"})
    static void driveToNoSuchStop() {
        end("", "drive 0;", 0);
        end("even 1 1 1 1;", "drive 0;drive 0;drive 1;", 2);
        end("last 0 0 0 0;".repeat(8), "drive 7;drive 8;", 1);
        end("last 0 0 0 0;".repeat(9), "drive 8;", 1);
    }

    @Edge(promise = 8, says = "one is at no STOP (ladle, talk)")
    static void ladleAndTalkAtNoStop() {
        end("even 0 0 9 9;", "ladle 1;", 0);
        end("even 0 0 9 9;", "talk;", 0);
        end("even 0 0 9 9;", "drive 0;ladle 1;talk;return;ladle 1;", 4);
        end("even 0 0 9 9;", "drive 0;ladle 1;talk;return;talk;", 4);
        end("even 0 0 9 9;", "wait 1;return;wait 1;", 3);
    }

    @Edge(promise = 8, says = {"ladle: at a STOP, so many bowls, as there are", "there are not so many bowls"})
    static void ladleAsManyAsThereAreBowls() {
        end("even 0 0 9 9;soup 5;", "drive 0;ladle 5;", 2);
        end("even 0 0 9 9;soup 5;", "drive 0;ladle 6;", 1);
        end("even 0 0 9 9;soup 5;", "drive 0;ladle 3;ladle 2;ladle 1;", 3);
        end("even 0 0 9 9;soup 0;", "drive 0;ladle 1;", 1);
    }

    @Edge(promise = 8, says = {", and as there are who wait;", "not so many who wait"})
    static void ladleAsManyAsThereAreWhoWait() {
        end("even 0 0 9 9;", "drive 0;ladle 9;", 2);
        end("even 0 0 9 9;", "drive 0;ladle 10;", 1);
        end("even 0 0 9 9;", "drive 0;ladle 8;ladle 1;ladle 1;", 3);
        end("even 0 0 0 0;", "drive 0;ladle 1;", 1);
    }

    @Edge(promise = 8, says = {"or it would be done behind minute 300.", "wait: so many minutes."})
    static void waitUpToMinute300() {
        String[] towns = {"", "even 0 0 1 1;"};
        for (String town : towns) {
            end(town, "wait 60;".repeat(5), 5);
            end(town, "wait 60;".repeat(5) + "wait 1;", 5);
            end(town, "wait 60;".repeat(4) + "wait 59;wait 1;", 6);
            end(town, "wait 60;".repeat(4) + "wait 59;wait 2;", 5);
            end(town, "wait 60;".repeat(5) + "return;return;", 7);
        }
    }

    @Edge(promise = 8, says = {"or it would be done behind minute 300.", "PACE minutes for each step by columns and rows."})
    static void driveUpToMinute300() {
        // 9 minutes for each of ten steps
        String town = "even 4 6 1 1;pace 9;";
        end(town, "wait 60;wait 60;wait 60;wait 30;drive 0;", 5);
        end(town, "wait 60;wait 60;wait 60;wait 31;drive 0;", 4);
        end(town, "drive 0;wait 60;wait 60;return;", 4);
        end(town, "drive 0;wait 60;wait 60;wait 1;return;", 4);
        end(town, "drive 0;drive 0;" + "wait 60;wait 60;wait 30;drive 0;return;", 6);
        end("even 9 9 1 1;pace 9;", "drive 0;return;", 1);
    }

    @Edge(promise = 8, says = {"or it would be done behind minute 300.", "a minute for two (begun ones, too);"})
    static void ladleUpToMinute300() {
        String late = "drive 0;" + "wait 60;".repeat(4) + "wait 59;";
        end("even 0 0 9 9;", late + "ladle 1;", 7);
        end("even 0 0 9 9;", late + "ladle 2;", 7);
        end("even 0 0 9 9;", late + "ladle 3;", 6);
        end("even 0 0 9 9;", late + "wait 1;ladle 1;", 7);
    }

    @Edge(promise = 8, says = {"or it would be done behind minute 300.", "talk: at a STOP: TALK minutes"})
    static void talkUpToMinute300() {
        String late = "drive 0;" + "wait 60;".repeat(4) + "wait 30;";
        end("even 0 0 9 9;talk 30;", late + "talk;", 7);
        end("even 0 0 9 9;talk 30;", late + "wait 1;talk;", 7);
        end("even 0 0 9 9;talk 1;", late + "wait 29;talk;talk;", 8);
        end("even 0 0 9 9;talk 30;", "drive 0;" + "talk;".repeat(11), 11);
    }

    // ---- promise 9

    @Edge(promise = 9, says = {"An EVENING of a TOWN begins at minute 0 at HOME, SOUP aboard;",
        "1: where she is (NONE: at HOME), 2: bowls aboard", "Of a STATE, what 0: the minute", "A STATE is behind the first n"
            + " DEEDS, n up to END."})
    static void howAnEveningBegins() {
        for (int soup : new int[] {0, 99}) {
            SoupNine x = told("even 0 0 9 9;soup " + soup + ";", "drive 0;");
            int[] due = {0, -1, soup, 0, 0, 0, 0};
            for (int what = 0; what < 7; what++) {
                state(x, 0, what, due[what]);
            }
            state(x, 0, 10, 9);
            state(x, 0, 20, 0);
            state(x, 0, 30, 0);
            // a STOP in HOME's place is another place to be than HOME
            state(x, 1, 1, 0);
            state(x, 1, 0, 0);
        }
    }

    @Edge(promise = 9, says = {"at each STOP as many wait as come in the middle: LEAST and MOST, half of both together (cut);",
        "at a CROWDED one MOST, at an EMPTY one LEAST.", "10 + s: who wait at a STOP (AGAIN ones, too)"})
    static void whoWaitAtFirst() {
        int[][] rows = {{0, 0}, {0, 1}, {1, 2}, {2, 5}, {3, 5}, {0, 20}, {19, 20}, {20, 20}};
        for (int[] row : rows) {
            String numbers = " 0 0 " + row[0] + " " + row[1] + ";";
            SoupNine x = told("even" + numbers + "crowded" + numbers + "empty" + numbers + "last" + numbers, "");
            int half = (row[0] + row[1]) / 2;
            int[] due = {half, row[1], row[0], half};
            for (int s = 0; s < 4; s++) {
                state(x, 0, 10 + s, due[s]);
            }
        }
    }

    @Edge(promise = 9, says = {"drive: to a STOP (she may be there): PACE minutes for each step by columns and rows.",
        "return: to HOME, likewise as drive."})
    static void minutesOfDriving() {
        SoupNine x = told("home 9 0;even 0 9 1 1;even 0 9 1 1;even 9 0 1 1;pace 7;",
                "drive 2;drive 0;drive 0;drive 1;return;return;");
        int[] minutes = {0, 0, 126, 126, 126, 252, 252};
        int[] where = {-1, 2, 0, 0, 1, -1, -1};
        for (int n = 0; n <= 6; n++) {
            state(x, n, 0, minutes[n]);
            state(x, n, 1, where[n]);
        }
    }

    @Edge(promise = 9, says = {"a minute for two (begun ones, too); who is fed waits no more;", "3: how many were fed",
        "30 + s: how many were fed there.", "2: bowls aboard"})
    static void ladleEvenAndOdd() {
        SoupNine x = told("even 0 0 20 20;soup 20;", "drive 0;ladle 1;ladle 2;ladle 3;ladle 14;");
        int[] minutes = {0, 0, 1, 2, 4, 11};
        int[] fed = {0, 0, 1, 3, 6, 20};
        for (int n = 0; n <= 5; n++) {
            state(x, n, 0, minutes[n]);
            state(x, n, 2, 20 - fed[n]);
            state(x, n, 3, fed[n]);
            state(x, n, 10, 20 - fed[n]);
            state(x, n, 30, fed[n]);
        }
    }

    @Edge(promise = 9, says = "so many bowls, as there are, and as there are who wait;")
    static void ladleFortyAtOnce() {
        String town = "crowded 0 0 0 20;".repeat(4) + "follow 0 3 9;follow 1 3 9;follow 2 3 9;soup 99;";
        SoupNine x = told(town, "drive 0;ladle 9;drive 1;ladle 9;drive 2;ladle 9;drive 3;ladle 40;");
        Due.is("till", x.till(0, 0), 8);
        state(x, 7, 13, 47);
        state(x, 7, 23, 27);
        state(x, 8, 0, 35);
        state(x, 8, 13, 7);
        state(x, 8, 23, 7);
        state(x, 8, 6, 20);
        state(x, 8, 33, 40);
    }

    @Edge(promise = 9, says = {"they are fed WARM, if the minute at which it was begun is ahead of COLD.", "4: of these WARM",
        "COLD, 0 .. 99: the minute from which soup is cold"})
    static void warmAheadOfCold() {
        for (int cold : new int[] {1, 2, 59, 98, 99}) {
            String late = "drive 0;" + (cold > 60 ? "wait 60;wait " + (cold - 60) : "wait " + cold) + ";ladle 4;";
            String early = "drive 0;" + (cold > 61 ? "wait 60;wait " + (cold - 61) : cold > 1 ? "wait " + (cold - 1) : "drive 0") + ";ladle 9;";
            SoupNine x = told("even 0 0 9 9;cold " + cold + ";", late);
            int end = x.till(0, 0);
            state(x, end, 3, 4);
            state(x, end, 4, 0);
            Due.tell(x, 1, 0, early);
            end = x.till(0, 0);
            state(x, end, 3, 9);
            state(x, end, 4, 9);
        }
        SoupNine y = told("even 0 0 9 9;cold 0;", "drive 0;ladle 9;");
        state(y, 2, 3, 9);
        state(y, 2, 4, 0);
    }

    @Edge(promise = 9, says = {"Of those who are fed by one ladling at a STOP with FOLLOWERS",
        ", as many as FOLLOWERS are, less those who went on from there already, go on to the other STOP at once",
        ", and wait there, too, as AGAIN ones;", "20 + s: of these AGAIN"})
    static void noMoreGoOnThanFollowers() {
        SoupNine x = told("even 0 0 9 9;even 0 0 1 1;follow 0 1 3;", "drive 0;ladle 2;ladle 2;ladle 2;");
        int[] waiting = {1, 1, 3, 4, 4};
        for (int n = 0; n <= 4; n++) {
            state(x, n, 11, waiting[n]);
            state(x, n, 21, waiting[n] - 1);
        }
        Due.tell(x, 0, 0, "even 0 0 9 9;even 0 0 1 1;follow 0 1 0;");
        state(x, 4, 11, 1);
        state(x, 4, 21, 0);
        Due.tell(x, 0, 0, "even 0 0 9 9;even 0 0 1 1;follow 0 1 9;");
        state(x, 4, 11, 7);
        state(x, 4, 21, 6);
        Due.tell(x, 0, 0, "even 0 0 9 9;even 0 0 1 1;follow 1 0 9;");
        state(x, 4, 11, 1);
    }

    @Edge(promise = 9, says = {"with FOLLOWERS (AGAIN ones, too), as many as FOLLOWERS are", "6: fed AGAIN"})
    static void whoIsFedAgainGoesOnToo() {
        SoupNine x = told("even 0 0 2 2;even 0 0 0 0;even 0 0 0 0;follow 0 1 9;follow 1 2 9;",
                "drive 0;ladle 2;drive 1;ladle 2;drive 2;ladle 2;");
        state(x, 2, 21, 2);
        state(x, 4, 11, 0);
        state(x, 4, 21, 0);
        state(x, 4, 12, 2);
        state(x, 4, 22, 2);
        state(x, 4, 6, 2);
        state(x, 6, 6, 4);
        state(x, 6, 3, 6);
    }

    @Edge(promise = 9, says = "less those who went on from there already")
    static void whoComesRoundAgainGoesOnWithinFollowers() {
        SoupNine x = told("even 0 0 2 2;even 0 0 0 0;follow 0 1 3;follow 1 0 9;",
                "drive 0;ladle 2;drive 1;ladle 2;drive 0;ladle 2;drive 1;ladle 1;");
        Due.is("till", x.till(0, 0), 8);
        state(x, 6, 11, 1);
        state(x, 6, 6, 4);
        state(x, 8, 20, 1);
    }

    @Edge(promise = 9, says = "the AGAIN ones at a STOP are fed behind all others.")
    static void againOnesAreFedBehindAllOthers() {
        SoupNine x = told("even 0 0 2 2;even 0 0 3 3;follow 0 1 2;", "drive 0;ladle 2;drive 1;ladle 3;ladle 1;ladle 1;");
        int[] fedAgain = {0, 0, 0, 0, 0, 1, 2};
        int[] waitAgain = {0, 0, 2, 2, 2, 1, 0};
        for (int n = 0; n <= 6; n++) {
            state(x, n, 6, fedAgain[n]);
            state(x, n, 21, waitAgain[n]);
        }
        Due.tell(x, 1, 0, "drive 0;ladle 2;drive 1;ladle 4;");
        state(x, 4, 6, 1);
        state(x, 4, 21, 1);
    }

    @Edge(promise = 9, says = {"talk: at a STOP: TALK minutes, one TALKED to. wait: so many minutes.", "5: how many TALKED to"})
    static void talkAndWait() {
        SoupNine x = told("even 0 0 0 0;talk 30;", "drive 0;talk;talk;wait 60;");
        int[] minutes = {0, 0, 30, 60, 120};
        int[] talked = {0, 0, 1, 2, 2};
        for (int n = 0; n <= 4; n++) {
            state(x, n, 0, minutes[n]);
            state(x, n, 5, talked[n]);
        }
    }

    @Edge(promise = 9, says = "-2: there is no such STATE")
    static void noSuchState() {
        SoupNine x = new SoupNine();
        state(x, 0, 0, -2);
        Due.tell(x, 0, -1, "even 0 0 1 1;");
        state(x, 0, 0, -2);
        Due.tell(x, 1, -1, "drive 0;ladle 1;ladle 1;wait 1;");
        state(x, 2, 0, 1);
        for (int n : new int[] {3, 4, 5, 40, 41, -1, -2, MIN, MAX}) {
            state(x, n, 0, -2);
        }
        for (int k : NO_PLACES) {
            Due.is("state(" + k + ", 0, 0, 0)", x.state(k, 0, 0, 0), -2);
            Due.is("state(0, " + k + ", 0, 0)", x.state(0, k, 0, 0), -2);
        }
        Due.tell(x, 1, 0, "wait 1;".repeat(40));
        state(x, 40, 0, 40);
        state(x, 41, 0, -2);
        SoupNine y = Due.told(1, "");
        state(y, 0, 0, -2);
    }

    @Edge(promise = 9, says = {"n up to END.", "-2: there is no such STATE"})
    static void whatCanNotBeChangesNothing() {
        SoupNine x = told("even 0 0 5 5;soup 3;", "drive 0;ladle 2;ladle 4;");
        state(x, 2, 2, 1);
        state(x, 2, 10, 3);
        state(x, 3, 2, -2);
        Due.is("till", x.till(0, 0), 2);
        Due.is("till, another time", x.till(0, 0), 2);
        state(x, 0, 2, 3);
    }

    @Edge(promise = 9, says = "or for another what.")
    static void stateOfAnotherWhat() {
        SoupNine x = told("last 0 0 0 0;".repeat(9), "");
        for (int what : new int[] {-1, -2, -10, 7, 8, 9, 19, 29, 39, 40, 41, 48, 50, 100, MIN, MAX}) {
            state(x, 0, what, -2);
        }
        for (int what : new int[] {18, 28, 38}) {
            state(x, 0, what, 0);
        }
        Due.tell(x, 0, 0, "last 0 0 0 0;".repeat(2));
        for (int what : new int[] {12, 18, 22, 32}) {
            state(x, 0, what, -2);
        }
        Due.tell(x, 0, 0, "");
        for (int what : new int[] {10, 20, 30}) {
            state(x, 0, what, -2);
        }
    }

    // ---- promise 28

    private static int seed;

    private static int below(int n) {
        seed = seed * 1103515245 + 12345;
        return (seed >>> 16) % n;
    }

    @Edge(promise = 28, says = {"DRAWN, n times, what as state().",
        "DRAWN by a SEED, x; a number below n is drawn: x becomes x * 1103515245 + 12345 (of 32 bits), it is x shifted right by"
            + " 16 without sign, remainder by n",
        "0, 1, 2: drive, to a STOP, a number below STOPS;"})
    static void theFirstDrives() {
        int drives = 0;
        for (int from : new int[] {0, 1, 2, 3, -1, -2, 7, 40, 1 << 16, 1 << 30, MIN, MAX, 123456789, -987654321}) {
            for (int stops = 1; stops <= 9; stops++) {
                SoupNine x = Due.told(0, "last 0 0 9 9;".repeat(stops));
                seed = from;
                int where = -1;
                if (below(8) < 3) {
                    where = below(stops);
                    drives++;
                }
                Due.is("drawn(0, " + from + ", 1, 1)", x.drawn(0, from, 1, 1), where);
            }
        }
        Due.is("some of them drive", drives > 20, true);
    }

    // a seed whose first number below 8 is drawn from a number with or without its highest bit
    private static int seedFor(int first, boolean high) {
        for (int from = 0; from < 10000; from++) {
            seed = from;
            if (below(8) == first && seed < 0 == high) {
                return from;
            }
        }
        return 0;
    }

    @Edge(promise = 28, says = {"it is x shifted right by 16 without sign, remainder by n", "a number below 8: 0, 1, 2: drive",
        "3, 4, 5: ladle", "6: talk; 7: return;"})
    static void eachOfTheEight() {
        SoupNine x = Due.told(0, "even 1 0 20 20;pace 1;talk 5;");
        for (int first = 0; first < 8; first++) {
            for (int high = 0; high < 2; high++) {
                int from = seedFor(first, high == 1);
                // at HOME: only drives may be, or to return to where she is
                Due.is("where by " + first, x.drawn(0, from, 1, 1), first < 3 ? 0 : -1);
                Due.is("minute by " + first, x.drawn(0, from, 1, 0), first < 3 ? 1 : 0);
                Due.is("TALKED to", x.drawn(0, from, 1, 5), 0);
            }
        }
    }

    @Edge(promise = 28, says = {"3, 4, 5: ladle, 1 more than a number below 8; 6: talk; 7: return; each, if it may."})
    static void eachIfItMay() {
        for (int from = -50; from < 50; from++) {
            SoupNine x = Due.told(0, "even 1 0 20 20;pace 1;talk 5;soup 20;cold 3;");
            seed = from;
            int[] due = {0, -1, 20, 0, 0, 0, 0};
            for (int n = 0; n < 20; n++) {
                for (int what = 0; what < 7; what++) {
                    Due.is("drawn(0, " + from + ", " + n + ", " + what + ")", x.drawn(0, from, n, what), due[what]);
                }
                go(due);
            }
        }
    }

    // a town of one STOP, a step away, where 20 wait for 20 bowls
    private static void go(int[] due) {
        int first = below(8);
        if (first < 3) {
            below(1);
            due[0] += due[1] < 0 ? 1 : 0;
            due[1] = 0;
        } else if (first < 6) {
            int many = 1 + below(8);
            if (due[1] == 0 && many <= due[2]) {
                due[4] += due[0] < 3 ? many : 0;
                due[0] += (many + 1) / 2;
                due[2] -= many;
                due[3] += many;
            }
        } else if (first == 6 && due[1] == 0) {
            due[0] += 5;
            due[5]++;
        } else if (first == 7) {
            due[0] += due[1] == 0 ? 1 : 0;
            due[1] = -1;
        }
    }

    @Edge(promise = 28, says = ": n times, 0 to 60:")
    static void drawnUpToSixtyTimes() {
        SoupNine x = Due.told(0, "even 0 0 9 9;soup 7;");
        Due.is("drawn 0 times, bowls", x.drawn(0, 5, 0, 2), 7);
        Due.is("drawn 0 times, where", x.drawn(0, 5, 0, 1), -1);
        Due.is("drawn 60 times", x.drawn(0, 5, 60, 0) >= 0, true);
        boolean more = false;
        for (int from = 0; from < 20; from++) {
            // the last time is done, too
            more |= x.drawn(0, from, 60, 0) > x.drawn(0, from, 59, 0);
        }
        Due.is("the 60th time counts", more, true);
    }

    @Edge(promise = 28, says = "(Without STOPS 0 to 2 draw no number, nothing is done.)")
    static void drawnWithoutStops() {
        SoupNine x = Due.told(0, "home 3 3;soup 7;");
        int[] due = {0, -1, 7, 0, 0, 0, 0};
        for (int from = -20; from < 20; from++) {
            for (int what = 0; what < 7; what++) {
                Due.is("drawn(0, " + from + ", 60, " + what + ")", x.drawn(0, from, 60, what), due[what]);
            }
        }
        Due.is("no STOP", x.drawn(0, 1, 60, 10), -2);
    }

    @Edge(promise = 28, says = "-2: there is none such")
    static void drawnOfNone() {
        SoupNine x = new SoupNine();
        Due.is("drawn of a new object", x.drawn(0, 0, 0, 0), -2);
        Due.tell(x, 0, -1, "");
        for (int town : NO_PLACES) {
            Due.is("drawn(" + town + ", 0, 0, 0)", x.drawn(town, 0, 0, 0), -2);
        }
    }

    @Edge(promise = 28, says = "another n")
    static void drawnAnotherNumberOfTimes() {
        SoupNine x = Due.told(0, "even 0 0 9 9;");
        for (int n : new int[] {-1, -2, 61, 62, MIN, MAX}) {
            Due.is("drawn(0, 0, " + n + ", 0)", x.drawn(0, 0, n, 0), -2);
        }
    }

    @Edge(promise = 28, says = "or for another what.")
    static void drawnOfAnotherWhat() {
        SoupNine x = Due.told(0, "last 0 0 3 3;".repeat(9));
        for (int what : new int[] {-1, -2, 7, 8, 9, 19, 29, 39, 40, 50, 100, MIN, MAX}) {
            Due.is("drawn(0, 0, 0, " + what + ")", x.drawn(0, 0, 0, what), -2);
        }
        Due.is("who wait at the last STOP", x.drawn(0, 0, 0, 18), 3);
        Due.tell(x, 0, 0, "last 0 0 3 3;");
        for (int what : new int[] {11, 21, 31}) {
            Due.is("drawn(0, 0, 0, " + what + ")", x.drawn(0, 0, 0, what), -2);
        }
    }
}
