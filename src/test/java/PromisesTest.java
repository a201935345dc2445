/** Each promise by answers that were worked out by hand: ordinary inputs, the document's edges, wrong inputs. */
public final class PromisesTest {
    static final String TOWN = "home 0 0;even 1 0 2 4;crowded 3 0 0 6;empty 0 4 1 9;last 3 4 1 3;"
            + "follow 0 1 2;follow 1 3 3;soup 10;pace 2;cold 20;talk 4;";
    static final String EVENING = "drive 0;ladle 3;drive 1;ladle 7;talk;drive 3;ladle 1;return;";
    static final String BOOK = "night 10 0;asked socks 3;asked gloves 5;night 12 4;asked socks 7;"
            + "night 20 10;asked socks 3;";
    static final String LIST = "shoe 9;shoe 11;foot 11 5;foot 10 9;foot 9 2;hide 2 0 5;hide 0 3 1;hide 5 5 0;";

    public static void main(String[] args) {
        newObject();
        tapeOfBytes();
        texts();
        twoOfASort();
        faults();
        town();
        deeds();
        evening();
        bowls();
        drives();
        moreOfTowns();
        books();
        lists();
        worries();
        sharedDays();
        turns();
        drawnOnes();
        images();
        constants();
        Due.finish("PromisesTest");
    }

    private static void constants() {
        Due.is("NONE", SoupNine.NONE, -1);
    }

    private static void newObject() {
        SoupNine x = new SoupNine();
        for (int sort = 0; sort < 4; sort++) {
            Due.is("count", x.count(sort), 0);
        }
        Due.is("count(4)", x.count(4), -2);
        Due.is("count(-1)", x.count(-1), -2);
        Due.is("fault(0)", x.fault(0), 0);
        Due.is("fault(1)", x.fault(1), -1);
        Due.is("end(0)", x.end(0), 0);
        Due.is("end(1)", x.end(1), -1);
        for (int k = -1; k < 4; k++) {
            Due.is("again", x.again(k), false);
        }
        Due.is("town", x.town(0, 0), -2);
        Due.is("deed", x.deed(0, -1, 0), -2);
        Due.is("till", x.till(0, 0), -1);
        Due.is("state", x.state(0, 0, 0, 0), -2);
        Due.is("give", x.give(0, 0, 0, 0), -1);
        Due.is("mean", x.mean(0, 0, 0, false), -1);
        Due.is("safe", x.safe(0), -1);
        Due.is("way", x.way(0, -1), -1);
        Due.is("round", x.round(0, -1), -1);
        Due.is("talks", x.talks(0), -1);
        Due.is("lost", x.lost(0, 0), -1);
        Due.is("book", x.book(0, -1, 0), -1);
        Due.is("held", x.held(0, 0), -2);
        Due.is("bring", x.bring(0, 0, 1), -1);
        Due.is("span", x.span(0, 0, true), -1);
        Due.is("list", x.list(0, 0), -1);
        Due.is("shod", x.shod(0, -1), -1);
        Due.is("look", x.look(0, -1), -1);
        Due.is("drawn", x.drawn(0, 0, 0, 0), -2);
        Due.is("tells", x.tells(0, 0, 0, false), -1);
        Due.is("depot", x.depot(0, true), -1);
        Due.is("vans", x.vans(0, true), -1);
        Due.is("trail", x.trail(0, 0, true), -1);
        Due.is("chat", x.chat(0, true), -1);
        Due.is("lack", x.lack(0, 0, true), -1);
        Due.is("lot", x.lot(0, 0, true), -1);
        Due.is("like", x.like(0, 0, 0), -1);
    }

    private static void tapeOfBytes() {
        SoupNine x = new SoupNine();
        for (int i = 1; i <= 30; i++) {
            Due.is("feed", x.feed(-1, 0, 1, 2, 3), 20 * i);
        }
        Due.is("feed beyond 600", x.feed(1, 2, 3, 4, 5), -1);
        Due.is("end(601)", x.end(601), -1);
        Due.is("end(600)", x.end(600), 600);
        Due.is("end(581)", x.end(581), 581);
        Due.is("feed to 601", x.feed(1, 2, 3, 4, 5), -1);
        Due.is("end(580)", x.end(580), 580);
        Due.is("feed to 600", x.feed(1, 2, 3, 4, 5), 600);
        Due.is("end(-1)", x.end(-1), -1);
        Due.is("end(0)", x.end(0), 0);
        // the highest byte of a number first: "talk;talk;talk;talk;"
        Due.is("feed", x.feed(0x74616c6b, 0x3b74616c, 0x6b3b7461, 0x6c6b3b74, 0x616c6b3b), 20);
        Due.is("text", x.text(1, -1), 0);
        Due.is("deeds", x.deed(0, -1, 0), 4);
    }

    // a text that would have a FAULT, were it read
    private static void takenUnread(SoupNine x, String why, int sort, int at) {
        Due.tape(x, "talk;talk 1;");
        Due.is(why, x.text(sort, at), -2);
        Due.is("fault, " + why, x.fault(0), 0);
        Due.is("place, " + why, x.fault(1), -1);
        Due.is("the tape is empty, " + why, x.feed(0, 0, 0, 0, 0), 20);
    }

    private static void texts() {
        SoupNine x = new SoupNine();
        takenUnread(x, "no such sort", 4, -1);
        takenUnread(x, "no such sort", -1, -1);
        takenUnread(x, "none in its place", 1, 0);
        takenUnread(x, "at below NONE", 1, -2);
        Due.is("count", x.count(1), 0);
        Due.is("text", Due.tell(x, 1, -1, "talk;"), 0);
        Due.is("the tape is empty", x.end(1), -1);
        Due.is("a further one", Due.tell(x, 1, -1, "return;wait 60;"), 1);
        takenUnread(x, "as many as may be", 1, -1);
        Due.is("count", x.count(1), 2);
        Due.is("a FAULT", Due.tell(x, 1, 0, "talk 1;"), -1);
        Due.is("the tape is empty", x.end(1), -1);
        Due.is("its place is as it was", x.deed(0, 0, 0), 3);
        Due.is("fault", x.fault(0), 1);
        takenUnread(x, "behind all of them", 1, 2);
        Due.is("in the place of one", Due.tell(x, 1, 0, "ladle 40;"), 0);
        Due.is("deed", x.deed(0, 0, 0), 1);
        Due.is("deed", x.deed(0, 0, 1), 40);
        Due.is("count", x.count(1), 2);
        Due.is("an empty one", Due.tell(x, 0, -1, ""), 0);
        Due.is("blanks alone", Due.tell(x, 0, -1, " \n "), 1);
        Due.is("blanks between, none needed", Due.tell(x, 1, 1, "\n ladle07 ;wait\n9;"), 1);
        Due.is("deed", x.deed(1, 0, 1), 7);
        Due.is("deed", x.deed(1, 1, 1), 9);
        Due.is("a town's own in place", Due.tell(x, 0, 1, "soup 1;"), 1);
        Due.is("again by first numbers", Due.tell(x, 0, 1, "pace 3;"), 1);
        Due.is("soup is the first one again", x.town(1, 2), 60);
    }

    // what is asked of one in turn with another is what it would be alone
    private static void twoOfASort() {
        SoupNine x = Due.told(0, TOWN);
        Due.tell(x, 0, -1, "last 1 1 0 3;");
        Due.tell(x, 3, -1, LIST);
        Due.tell(x, 3, -1, "foot 4 7;shoe 5;hide 0 2 1;");
        for (int i = 0; i < 2; i++) {
            Due.is("way", x.way(0, -1), 11);
            Due.is("way", x.way(1, -1), 1);
            Due.is("round", x.round(0, -1), 28);
            Due.is("round", x.round(1, -1), 8);
            Due.is("mean", x.mean(0, 0, 28, true), 1);
            Due.is("mean", x.mean(1, 0, 0, false), 3);
            Due.is("mean", x.mean(0, 4, 0, false), 0);
            Due.is("mean", x.mean(1, 1, 0, false), 0);
            Due.is("shod", x.shod(0, -1), 11);
            Due.is("shod", x.shod(1, -1), 7);
            Due.is("look", x.look(0, -1), 17);
            Due.is("look", x.look(1, -1), 2);
        }
    }

    private static void fault(int sort, String text, int fault, int place) {
        SoupNine x = new SoupNine();
        Due.is("text of " + text, Due.tell(x, sort, -1, text), fault == 0 ? 0 : -1);
        Due.is("fault(0) of " + text, x.fault(0), fault);
        Due.is("fault(1) of " + text, x.fault(1), place);
        Due.is("fault(2)", x.fault(2), -1);
        Due.is("fault(-1)", x.fault(-1), -1);
        Due.is("count", x.count(sort), fault == 0 ? 1 : 0);
    }

    private static void faults() {
        fault(0, "even 10 0 0 0;", 2, 5);
        fault(0, "even 0 0 21 0;", 2, 9);
        fault(0, "even 0 0 5 4;", 2, 11);
        fault(0, "even 0 0 5 5;", 0, -1);
        fault(0, "even 9 9 20 20;", 0, -1);
        fault(0, "even 0 10 0 0;", 2, 7);
        fault(0, "last 0 0 0 21;", 2, 11);
        fault(0, "follow 0 0 1;", 2, 9);
        fault(0, "follow 9 0 1;", 2, 7);
        fault(0, "follow 0 9 1;", 2, 9);
        fault(0, "follow 0 1 1;", 5, 13);
        fault(0, "follow 0 1 10;", 2, 11);
        fault(0, "even 0 0 0 0;follow 0 1 1; ", 5, 27);
        fault(0, "follow 1 0 0;even 0 0 0 0;even 0 0 0 0;", 0, -1);
        fault(0, "even 0 0 0 0;even 0 0 0 0;follow 0 8 1;follow 0 1 1;", 5, 52);
        fault(0, "home 0 10;", 2, 7);
        fault(0, "home 10 0;", 2, 5);
        fault(0, "soup 100;", 1, 5);
        fault(0, "soup 99;soup 0;cold 0;cold 99;", 0, -1);
        fault(0, "soup 099;", 1, 5);
        fault(0, "pace 0;", 2, 5);
        fault(0, "pace 10;", 2, 5);
        fault(0, "pace 9;", 0, -1);
        fault(0, "talk 31;", 2, 5);
        fault(0, "talk 0;", 2, 5);
        fault(0, "talk 30;", 0, -1);
        fault(0, "talk;", 1, 4);
        fault(0, "last 0 0 0 0;".repeat(9), 0, -1);
        fault(0, "last 0 0 0 0;".repeat(10), 3, 117);
        fault(0, "last 0 0 0 0;".repeat(9) + "even 99 0 0 0;", 3, 117);
        fault(0, "last 0 0 0 99;" + "last 0 0 0 0;".repeat(9), 2, 11);
        fault(0, "last 0 0 0 0;".repeat(10) + "x", 1, 130);
        fault(0, "drive 1;", 1, 0);
        fault(0, "evens 0 0 0 0;", 1, 0);
        fault(0, "oven 0 0 0 0;", 1, 0);
        fault(0, "evem 0 0 0 0;", 1, 0);
        fault(0, "eve 0 0 0 0;", 1, 0);
        fault(0, "hold 9;", 1, 0);
        fault(1, "walk;", 1, 0);
        fault(2, "night 1 1;asked rocks 1;", 1, 16);
        fault(0, "even 0 0 0 0", 1, 12);
        fault(0, "even 0 0 0  ", 1, 12);
        fault(0, "even 0 0 0;", 1, 10);
        fault(0, ";", 1, 0);
        fault(0, "Even 0 0 0 0;", 1, 0);
        fault(0, "pace 9;\t", 1, 7);
        fault(0, "pace 0;\u00e9", 1, 7);
        fault(1, "drive 9;", 2, 6);
        fault(1, "drive 8;", 0, -1);
        fault(1, "ladle 0;", 2, 6);
        fault(1, "ladle 41;", 2, 6);
        fault(1, "ladle 40;ladle 1;", 0, -1);
        fault(1, "wait 61;", 2, 5);
        fault(1, "wait 0;", 2, 5);
        fault(1, "wait 60;wait 1;", 0, -1);
        fault(1, "talk 1;", 1, 5);
        fault(1, "return 1;", 1, 7);
        fault(1, "talk;".repeat(40), 0, -1);
        fault(1, "talk;".repeat(41), 3, 200);
        fault(1, "talk", 1, 4);
        fault(1, "talkreturn;", 1, 0);
        fault(2, "night 5 6;", 2, 8);
        fault(2, "night 5 5;night 99 99;night 0 0;", 0, -1);
        fault(2, "asked socks 1;", 4, 0);
        fault(2, "  asked socks 1;night 0 0;", 4, 2);
        fault(2, "asked socks 1;night 5 6;", 4, 0);
        fault(2, "night 5 6;asked socks 1;", 2, 8);
        fault(2, "asked socks 1;asked hats 1;", 1, 20);
        fault(2, "night 1 0;asked hats 1;", 1, 16);
        fault(2, "night 1 0;asked 1;", 1, 16);
        fault(2, "night 1 0;asked socks;", 1, 21);
        fault(2, "night 0 0;".repeat(10), 0, -1);
        fault(2, "night 0 0;".repeat(11), 3, 100);
        fault(3, "shoe 0;", 2, 5);
        fault(3, "shoe 21;", 2, 5);
        fault(3, "foot 21 0;", 2, 5);
        fault(3, "foot 0 0;", 2, 5);
        fault(3, "foot 1 10;", 2, 7);
        fault(3, "hide 0 0 21;", 2, 9);
        fault(3, "hide 10 0 0;", 2, 5);
        fault(3, "hide 0 10 0;", 2, 7);
        fault(3, "shoe 20;foot 20 9;hide 9 9 20;shoe 1;foot 1 0;hide 0 0 0;", 0, -1);
        fault(3, "shoe 1;".repeat(6), 0, -1);
        fault(3, "shoe 1;".repeat(7), 3, 42);
        fault(3, "foot 1 1;".repeat(8), 0, -1);
        fault(3, "foot 1 1;".repeat(9), 3, 72);
        fault(3, "hide 0 0 0;".repeat(8), 0, -1);
        fault(3, "hide 0 0 0;".repeat(9), 3, 88);
    }

    private static void town() {
        SoupNine x = Due.told(0, TOWN + "follow 1 2 0;home 3 7;follow 3 0 9;");
        int[] first = {3, 7, 10, 2, 20, 4, 4};
        for (int what = 0; what < 7; what++) {
            Due.is("town(0, " + what + ")", x.town(0, what), first[what]);
        }
        int[][] rows = {{0, 1, 2, 3}, {1, 3, 0, 3}, {0, 0, 4, 4}, {2, 0, 1, 1}, {4, 6, 9, 3}, {2, 0, 0, 9}, {1, 2, -1, 0}};
        for (int row = 0; row < 7; row++) {
            for (int s = 0; s < 4; s++) {
                Due.is("town(0, " + (10 * row + 10 + s) + ")", x.town(0, 10 * row + 10 + s), rows[row][s]);
            }
        }
        for (int what : new int[] {-1, 7, 8, 9, 14, 19, 24, 79, 80, 81, 74, 110, Integer.MIN_VALUE, Integer.MAX_VALUE}) {
            Due.is("town(0, " + what + ")", x.town(0, what), -2);
        }
        Due.is("town(1, 0)", x.town(1, 0), -2);
        Due.is("town(-1, 0)", x.town(-1, 0), -2);
        SoupNine y = Due.told(0, "");
        int[] at = {0, 0, 60, 2, 60, 9, 0};
        for (int what = 0; what < 7; what++) {
            Due.is("town(0, " + what + ") at first", y.town(0, what), at[what]);
        }
    }

    private static void deeds() {
        SoupNine x = Due.told(1, EVENING + "wait 5;");
        int[] kinds = {0, 1, 0, 1, 3, 0, 1, 4, 2};
        int[] numbers = {0, 3, 1, 7, -1, 3, 1, -1, 5};
        Due.is("deeds", x.deed(0, -1, 0), 9);
        for (int k = 0; k < 9; k++) {
            Due.is("deed(0, " + k + ", 0)", x.deed(0, k, 0), kinds[k]);
            Due.is("deed(0, " + k + ", 1)", x.deed(0, k, 1), numbers[k]);
        }
        Due.is("deed(0, -1, 1)", x.deed(0, -1, 1), -2);
        Due.is("deed(0, 9, 0)", x.deed(0, 9, 0), -2);
        Due.is("deed(0, -2, 0)", x.deed(0, -2, 0), -2);
        Due.is("deed(0, 0, 2)", x.deed(0, 0, 2), -2);
        Due.is("deed(0, 0, -1)", x.deed(0, 0, -1), -2);
        Due.is("deed(1, -1, 0)", x.deed(1, -1, 0), -2);
    }

    private static void evening() {
        SoupNine x = Due.told(0, TOWN);
        Due.is("text", Due.tell(x, 1, -1, EVENING), 0);
        Due.is("till: no bowls are left", x.till(0, 0), 6);
        Due.is("till(1, 0)", x.till(1, 0), -1);
        Due.is("till(0, 1)", x.till(0, 1), -1);
        // minute, where, bowls, fed, warm, talked, fed again
        int[][] rows = {{0, -1, 10, 0, 0, 0, 0}, {2, 0, 10, 0, 0, 0, 0}, {4, 0, 7, 3, 3, 0, 0}, {8, 1, 7, 3, 3, 0, 0},
            {12, 1, 0, 10, 10, 0, 1}, {16, 1, 0, 10, 10, 1, 1}, {24, 3, 0, 10, 10, 1, 1}};
        int[][] waits = {{3, 6, 1, 2}, {3, 6, 1, 2}, {0, 8, 1, 2}, {0, 8, 1, 2}, {0, 1, 1, 5}, {0, 1, 1, 5}, {0, 1, 1, 5}};
        int[][] agains = {{0, 0, 0, 0}, {0, 0, 0, 0}, {0, 2, 0, 0}, {0, 2, 0, 0}, {0, 1, 0, 3}, {0, 1, 0, 3}, {0, 1, 0, 3}};
        int[][] feds = {{0, 0, 0, 0}, {0, 0, 0, 0}, {3, 0, 0, 0}, {3, 0, 0, 0}, {3, 7, 0, 0}, {3, 7, 0, 0}, {3, 7, 0, 0}};
        for (int n = 0; n <= 6; n++) {
            for (int what = 0; what < 7; what++) {
                Due.is("state(0, 0, " + n + ", " + what + ")", x.state(0, 0, n, what), rows[n][what]);
            }
            for (int s = 0; s < 4; s++) {
                Due.is("who wait", x.state(0, 0, n, 10 + s), waits[n][s]);
                Due.is("of these AGAIN", x.state(0, 0, n, 20 + s), agains[n][s]);
                Due.is("fed there", x.state(0, 0, n, 30 + s), feds[n][s]);
            }
        }
        Due.is("no such STATE", x.state(0, 0, 7, 0), -2);
        Due.is("no such STATE", x.state(0, 0, -1, 0), -2);
        Due.is("no such STATE", x.state(1, 0, 0, 0), -2);
        Due.is("no such STATE", x.state(0, 1, 0, 0), -2);
        for (int what : new int[] {-1, 7, 9, 14, 24, 34, 40, 100}) {
            Due.is("another what", x.state(0, 0, 0, what), -2);
        }
        ends();
    }

    private static void end(String town, String evening, int end) {
        SoupNine x = Due.told(0, town);
        Due.is("text", Due.tell(x, 1, -1, evening), 0);
        Due.is("till of " + town + " " + evening, x.till(0, 0), end);
        Due.is("the STATE at END", x.state(0, 0, end, 0) >= 0, true);
        Due.is("no STATE behind END", x.state(0, 0, end + 1, 0), -2);
    }

    private static void ends() {
        end("", "drive 0;", 0);
        end("", "return;wait 60;wait 60;wait 60;wait 60;wait 60;return;wait 1;", 7);
        end("even 0 0 9 9;", "ladle 1;", 0);
        end("even 0 0 9 9;", "talk;", 0);
        end("even 0 0 9 9;", "drive 0;drive 0;talk;return;talk;", 4);
        end("even 0 0 9 9;", "drive 0;ladle 10;", 1);
        end("even 0 0 9 9;", "drive 0;ladle 9;ladle 1;", 2);
        end("even 0 0 9 9;soup 8;", "drive 0;ladle 9;", 1);
        end("even 0 0 9 9;", "drive 1;", 0);
        end("even 0 0 9 9;talk 30;", "drive 0;" + "talk;".repeat(11), 11);
        end("even 9 9 0 0;pace 9;", "drive 0;return;drive 0;", 1);
        SoupNine x = Due.told(0, "even 0 0 9 9;cold 5;");
        Due.is("text", Due.tell(x, 1, -1, "drive 0;ladle 1;wait 3;ladle 3;ladle 1;"), 0);
        Due.is("warm at minute 4", x.state(0, 0, 4, 4), 4);
        Due.is("minute", x.state(0, 0, 4, 0), 6);
        Due.is("cold at minute 6", x.state(0, 0, 5, 4), 4);
        Due.is("fed", x.state(0, 0, 5, 3), 5);
        Due.is("text", Due.tell(x, 1, 0, "drive 0;wait 5;ladle 1;"), 0);
        Due.is("cold at minute 5", x.state(0, 0, 3, 4), 0);
        // who goes on may come back, and no more go on than FOLLOWERS
        Due.is("text", Due.tell(x, 0, 0, "even 0 0 2 2;even 0 0 0 0;follow 0 1 3;follow 1 0 9;"), 0);
        Due.is("text", Due.tell(x, 1, 0, "drive 0;ladle 2;drive 1;ladle 2;drive 0;ladle 2;drive 1;ladle 1;"), 0);
        Due.is("till", x.till(0, 0), 8);
        Due.is("the third goes on alone", x.state(0, 0, 6, 11), 1);
        Due.is("fed again", x.state(0, 0, 6, 6), 4);
        Due.is("he waits again at the first", x.state(0, 0, 8, 20), 1);
    }

    private static void bowls() {
        SoupNine x = Due.told(0, "even 0 0 0 2;last 0 0 1 2;");
        // at the LAST stop 1 or 2 come, with one bowl 0 or 1 lack it, and each counts 2
        Due.is("mean N", x.mean(0, 1, 1, false), 1);
        Due.is("mean D", x.mean(0, 1, 1, true), 1);
        Due.is("mean N", x.mean(0, 1, 0, false), 3);
        // of two bowls: 0 come: none counts; 1: keep both, 1 counts, or give it, and a half of two lack one: 1
        Due.is("give the most of several", x.give(0, 0, 2, 1), 1);
        Due.is("give", x.give(0, 0, 1, 1), 0);
        Due.is("give", x.give(0, 0, 2, 2), 1);
        Due.is("give", x.give(0, 0, 4, 2), 2);
        Due.is("give at the last", x.give(0, 1, 1, 2), 1);
        Due.is("mean N", x.mean(0, 0, 2, false), 1);
        Due.is("mean D", x.mean(0, 0, 2, true), 1);
        Due.is("mean N", x.mean(0, 0, 3, false), 1);
        Due.is("mean D", x.mean(0, 0, 3, true), 3);
        Due.is("mean behind all", x.mean(0, 2, 0, false), 0);
        Due.is("mean behind all", x.mean(0, 2, 0, true), 1);
        Due.is("mean", x.mean(0, 3, 0, true), -1);
        Due.is("mean", x.mean(0, -1, 0, true), -1);
        Due.is("mean", x.mean(0, 0, 100, true), -1);
        Due.is("mean", x.mean(0, 0, -1, true), -1);
        Due.is("mean", x.mean(1, 0, 0, true), -1);
        Due.is("give: more than come", x.give(0, 0, 2, 3), -1);
        Due.is("give: fewer than come", x.give(0, 1, 2, 0), -1);
        Due.is("give: fewer than come", x.give(0, 0, 2, -1), -1);
        Due.is("give", x.give(0, 2, 2, 0), -1);
        Due.is("give", x.give(0, -1, 2, 0), -1);
        Due.is("give", x.give(0, 0, 100, 0), -1);
        Due.is("give", x.give(0, 0, -1, 0), -1);
        Due.is("give", x.give(0, 0, 99, 0), 0);
        Due.is("give", x.give(1, 0, 0, 0), -1);
        Due.is("safe", x.safe(0), 4);
        Due.is("safe above 99", Due.told(0, "even 0 0 0 20;".repeat(9)).safe(0), 180);
        Due.is("safe of no STOPS", Due.told(0, "").safe(0), 0);
        Due.is("tells N", x.tells(0, 2, 1, false), 1);
        Due.is("tells D", x.tells(0, 2, 1, true), 1);
        Due.is("tells N", x.tells(0, 0, 0, false), 3);
        Due.is("tells", x.tells(0, 0, 3, true), -1);
        Due.is("tells", x.tells(0, 100, 0, true), -1);
        Due.is("tells of no STOPS", Due.told(0, "").tells(0, 0, 0, true), -1);
        // 0 to 2 and 1 to 2: sums 1, 2, 2, 3, 3, 4
        Due.is("lack N", x.lack(0, 2, false), 1);
        Due.is("lack D", x.lack(0, 2, true), 2);
        Due.is("lack N", x.lack(0, 0, false), 1);
        Due.is("lack D", x.lack(0, 0, true), 1);
        Due.is("lack N", x.lack(0, 99, false), 0);
        Due.is("lack D", x.lack(0, 99, true), 1);
        Due.is("lack", x.lack(0, 100, true), -1);
        Due.is("lack", x.lack(0, -1, true), -1);
        Due.is("lack of no STOPS", Due.told(0, "").lack(0, 0, false), 0);
        Due.is("lack of no STOPS", Due.told(0, "").lack(0, 0, true), 1);
        SoupNine y = Due.told(0, "last 0 0 0 20;".repeat(9));
        Due.is("mean of all without soup", y.mean(0, 0, 0, false), 180);
        Due.is("lack of no soup D", y.lack(0, 0, true), 794280046581L);
        Due.is("lack of no soup N", y.lack(0, 0, false), 794280046580L);
    }

    private static void drives() {
        SoupNine x = Due.told(0, TOWN);
        int[] way = {0, 1, 3};
        Due.is("way", x.way(0, -1), 11);
        Due.is("way's minutes", x.way(0, -2), 20);
        for (int k = -4; k < 6; k++) {
            if (k < -2 || k >= 0) {
                Due.is("way(0, " + k + ")", x.way(0, k), k < 0 || k > 2 ? -1 : way[k]);
            }
        }
        int[] round = {0, 1, 3, 2};
        Due.is("round", x.round(0, -1), 28);
        for (int k = -3; k < 6; k++) {
            if (k != -1) {
                Due.is("round(0, " + k + ")", x.round(0, k), k < 0 || k > 3 ? -1 : round[k]);
            }
        }
        Due.is("talks", x.talks(0), 0);
        int[] lost = {3, 6, 0, 2};
        for (int s = 0; s < 4; s++) {
            Due.is("lost(0, " + s + ")", x.lost(0, s), lost[s]);
        }
        Due.is("lost", x.lost(0, 4), -1);
        Due.is("lost", x.lost(0, -1), -1);
        Due.is("chat", x.chat(0, false), 2);
        Due.is("chat's STOPS", x.chat(0, true), 8);
        SoupNine y = Due.told(0, "even 1 0 4 4;even 2 0 4 4;even 0 1 4 4;even 9 9 0 0;cold 25;talk 3;");
        // to the third by the two others: 2, 4; 6, 8; 14, 16 minutes; by the third first: 2, 4; 8, 10; 12, 14
        Due.is("way", y.way(0, -1), 12);
        Due.is("way's minutes", y.way(0, -2), 14);
        Due.is("way", y.way(0, 0), 2);
        Due.is("way", y.way(0, 1), 0);
        Due.is("way", y.way(0, 2), 1);
        Due.is("nobody comes there", y.way(0, 3), -1);
        Due.is("talks", y.talks(0), 4);
        Due.is("chat", y.chat(0, false), 12);
        Due.is("chat's STOPS", y.chat(0, true), 7);
        SoupNine z = Due.told(0, "even 5 0 1 1;cold 11;");
        Due.is("talks behind the only one", z.talks(0), 9);
        Due.is("comes at COLD", Due.tell(z, 0, 0, "even 5 0 1 1;cold 10;"), 0);
        Due.is("talks: nobody is WARM", z.talks(0), -1);
        Due.is("way", z.way(0, -1), 0);
        Due.is("way's minutes", z.way(0, -2), 0);
        Due.is("way", z.way(0, 0), -1);
        Due.is("lost", z.lost(0, 0), 0);
        Due.is("chat", z.chat(0, false), 0);
        Due.is("chat's STOPS", z.chat(0, true), 0);
        Due.is("no STOPS", Due.tell(z, 0, 0, ""), 0);
        Due.is("way", z.way(0, -1), 0);
        Due.is("round", z.round(0, -1), 0);
        Due.is("round", z.round(0, 0), -1);
        Due.is("talks", z.talks(0), -1);
    }

    private static void moreOfTowns() {
        SoupNine x = Due.told(0, TOWN);
        // those in the middle: 3 at 1,0; 6 at 3,0; 1 at 0,4; 2 at 3,4
        Due.is("depot", x.depot(0, false), 3);
        Due.is("depot's minutes", x.depot(0, true), 2 * (3 * 2 + 0 + 7 + 2 * 4));
        Due.is("vans", x.vans(0, false), 28);
        Due.is("vans' STOPS", x.vans(0, true), 0);
        SoupNine y = Due.told(0, "home 5 5;even 5 7 0 0;even 5 3 0 0;even 7 5 0 0;pace 1;");
        Due.is("vans", y.vans(0, false), 8);
        Due.is("vans' STOPS", y.vans(0, true), 1);
        Due.is("depot: nobody comes", y.depot(0, false), 0);
        Due.is("depot: nobody comes", y.depot(0, true), 0);
        Due.is("no STOPS", Due.tell(y, 0, 0, ""), 0);
        Due.is("vans", y.vans(0, false), 0);
        Due.is("vans", y.vans(0, true), 0);
        Due.is("depot", y.depot(0, false), 0);
        Due.is("trail", x.trail(0, 0, false), 2);
        Due.is("trail", x.trail(0, 0, true), 0);
        Due.is("trail", x.trail(0, 3, false), 0);
        Due.is("trail", x.trail(0, 3, true), 0);
        Due.is("trail", x.trail(0, 4, true), -1);
        Due.is("trail", x.trail(0, -1, true), -1);
        Due.is("text", Due.tell(y, 0, 0, "even 0 1 0 0;last 0 2 0 0;last 0 0 0 0;follow 0 1 0;follow 1 0 5;follow 2 0 1;"), 0);
        Due.is("trail", y.trail(0, 0, false), 1);
        Due.is("trail", y.trail(0, 0, true), 1);
        Due.is("trail", y.trail(0, 2, false), 2);
        Due.is("trail", y.trail(0, 2, true), 1);
    }

    private static void books() {
        SoupNine x = Due.told(2, BOOK);
        Due.is("nights", x.book(0, -1, 0), 3);
        Due.is("nights", x.book(0, -1, 1), -1);
        int[][] rows = {{10, 0, 3, 5, 0}, {12, 4, 7, 0, 0}, {20, 10, 3, 0, 0}};
        for (int k = 0; k < 3; k++) {
            for (int what = 0; what < 5; what++) {
                Due.is("book(0, " + k + ", " + what + ")", x.book(0, k, what), rows[k][what]);
            }
        }
        Due.is("book", x.book(0, 0, 5), -1);
        Due.is("book", x.book(0, 0, -1), -1);
        Due.is("book", x.book(0, 3, 0), -1);
        Due.is("book", x.book(0, -2, 0), -1);
        Due.is("book", x.book(1, -1, 0), -1);
        // 12 times 10 and 20 times 18, by 14; 20 less 11
        int[] held = {28, 240, 7, 2, 9, 1, -2};
        for (int what = 0; what < 7; what++) {
            Due.is("held(0, " + what + ")", x.held(0, what), held[what]);
        }
        Due.is("held(0, -1)", x.held(0, -1), -2);
        Due.is("held(1, 0)", x.held(1, 0), -2);
        Due.is("bring", x.bring(0, 0, 1), 3);
        Due.is("bring", x.bring(0, 0, 2), 3);
        Due.is("bring", x.bring(0, 0, 3), 7);
        Due.is("bring", x.bring(0, 0, 4), -1);
        Due.is("bring", x.bring(0, 0, 0), -1);
        Due.is("bring", x.bring(0, 3, 1), -1);
        Due.is("bring", x.bring(0, -1, 1), -1);
        Due.is("span", x.span(0, 0, false), 3);
        Due.is("span", x.span(0, 0, true), 7);
        Due.is("span", x.span(0, 1, false), 0);
        Due.is("span", x.span(0, 1, true), 5);
        Due.is("span", x.span(0, 3, true), -1);
        Due.is("span", x.span(0, -1, true), -1);
        Due.is("text", Due.tell(x, 2, -1, "night 12 0;asked bags 99;asked bags 98;night 7 7;asked socks 3;"), 1);
        Due.is("later ones strike", x.book(1, 0, 4), 98);
        Due.is("of no NIGHT are more", x.held(1, 3), -1);
        Due.is("of no NIGHT are more", x.held(1, 4), -1);
        Due.is("of no NIGHT are more", x.held(1, 5), -1);
        Due.is("like", x.like(0, 1, 0), 2);
        Due.is("like", x.like(0, 1, 1), 4);
        Due.is("like", x.like(1, 0, 2), 3);
        Due.is("like", x.like(0, 1, 3), -1);
        Due.is("like", x.like(0, 2, 0), -1);
        // of 10, 12, 20, 12, 7 three, 42 together or more: 10 12 20 (twice), 12 20 12
        Due.is("lot N", x.lot(0, 1, false), 3);
        Due.is("lot D", x.lot(0, 1, true), 10);
        Due.is("lot", x.lot(0, 2, true), -1);
        Due.is("lot", x.lot(-1, 0, true), -1);
        emptyBook();
    }

    private static void emptyBook() {
        SoupNine x = Due.told(2, "");
        int[] held = {0, -1, -1, -1, -1, -1};
        for (int what = 0; what < 6; what++) {
            Due.is("held of no NIGHTS", x.held(0, what), held[what]);
        }
        Due.is("span of no NIGHTS", x.span(0, 0, true), -1);
        Due.is("bring of no NIGHTS", x.bring(0, 0, 1), -1);
        Due.is("lot of no NIGHTS", x.lot(0, 0, false), 1);
        Due.is("lot of no NIGHTS", x.lot(0, 0, true), 1);
        Due.is("text", Due.tell(x, 2, 0, "night 5 5;night 8 0;"), 0);
        Due.is("no AGAIN from the second NIGHT on", x.held(0, 1), -1);
        Due.is("text", Due.tell(x, 2, 0, "night 4 3;night 6 2;night 5 0;"), 0);
        Due.is("held N", x.held(0, 1), 31);
        Due.is("held D", x.held(0, 2), 2);
        Due.is("text", Due.tell(x, 2, 0, "night 1 0;night 4 0;night 1 0;night 4 0;"), 0);
        Due.is("doorway: the first of several", x.held(0, 3), 1);
        Due.is("doorway's difference", x.held(0, 4), 2);
        Due.is("doorway's difference", x.held(0, 5), 1);
    }

    private static void lists() {
        SoupNine x = Due.told(3, LIST);
        int[][] rows = {{9, 11}, {11, 10, 9}, {5, 9, 2}, {2, 0, 5}, {0, 3, 5}, {5, 1, 0}};
        int[] many = {2, 3, 3};
        for (int what = 0; what < 3; what++) {
            Due.is("list(0, " + what + ")", x.list(0, what), many[what]);
        }
        for (int row = 0; row < 6; row++) {
            for (int k = 0; k < 10; k++) {
                Due.is("list(0, " + (10 * row + 10 + k) + ")", x.list(0, 10 * row + 10 + k),
                        k < rows[row].length ? rows[row][k] : -1);
            }
        }
        for (int what : new int[] {-1, 3, 9, 70, 71, 100, Integer.MIN_VALUE, Integer.MAX_VALUE}) {
            Due.is("list(0, " + what + ")", x.list(0, what), -1);
        }
        Due.is("list(1, 0)", x.list(1, 0), -1);
        Due.is("shod", x.shod(0, -1), 11);
        int[] shoes = {6, 1, 0};
        for (int k = 0; k < 3; k++) {
            Due.is("shod(0, " + k + ")", x.shod(0, k), shoes[k]);
        }
        Due.is("shod(0, 3)", x.shod(0, 3), -1);
        Due.is("shod(0, -2)", x.shod(0, -2), -1);
        Due.is("shod(1, -1)", x.shod(1, -1), -1);
        // 2 minutes by 5, 7 by 1, of 6
        Due.is("look N", x.look(0, -1), 17);
        Due.is("look D", x.look(0, -2), 6);
        for (int k = 0; k < 3; k++) {
            Due.is("look(0, " + k + ")", x.look(0, k), k);
        }
        Due.is("look(0, 3)", x.look(0, 3), -1);
        Due.is("look(0, -3)", x.look(0, -3), -1);
        Due.is("text", Due.tell(x, 3, -1, "hide 1 1 0;foot 5 0;shoe 5;"), 1);
        Due.is("all ODDS are 0", x.look(1, -1), -1);
        Due.is("all ODDS are 0", x.look(1, 0), -1);
        Due.is("a SHOE without NEED", x.shod(1, 0), 0);
        Due.is("no NEED", x.shod(1, -1), 0);
        Due.is("text", Due.tell(x, 3, 1, "shoe 5;foot 6 1;foot 3 1;"), 1);
        Due.is("no SHOE fits", x.shod(1, 0), 6);
        Due.is("no SHOE fits", x.shod(1, 1), 6);
        Due.is("no HIDES", x.look(1, -1), -1);
        Due.is("text", Due.tell(x, 3, 1, "hide 0 0 0;hide 0 0 3;hide 1 0 0;"), 1);
        Due.is("without ODDS, but first by numbers", x.look(1, 0), 0);
        Due.is("at once", x.look(1, -1), 0);
        Due.is("at once", x.look(1, -2), 1);
    }

    private static void worries() {
        SoupNine x = new SoupNine();
        // 20 of 100 and then 80 of 100 times one half
        Due.is("worry N", x.worry(5, 20, 1, false), 1);
        Due.is("worry D", x.worry(5, 20, 1, true), 3);
        Due.is("worry N", x.worry(5, 20, 0, false), 1);
        Due.is("worry D", x.worry(5, 20, 0, true), 5);
        Due.is("worry, he is surely well", x.worry(5, 0, 9, true), 1);
        Due.is("worry, he is surely not", x.worry(0, 100, 9, false), 1);
        Due.is("worry can't be N", x.worry(10, 0, 1, false), 0);
        Due.is("worry can't be D", x.worry(10, 0, 1, true), 1);
        Due.is("worry D", x.worry(1, 1, 9, true), 10000000000L / 10 + 99L * 387420489);
        int[][] others = {{-1, 0, 0}, {11, 0, 0}, {0, -1, 0}, {0, 101, 0}, {0, 0, -1}, {0, 0, 10}};
        for (int[] o : others) {
            Due.is("worry of other numbers", x.worry(o[0], o[1], o[2], true), -1);
        }
        Due.is("when", x.when(5, 20, 2), 0);
        Due.is("when", x.when(5, 20, 3), 1);
        Due.is("when", x.when(5, 20, 5), 2);
        Due.is("when surely", x.when(5, 20, 10), -1);
        Due.is("when surely", x.when(10, 20, 10), 1);
        Due.is("when", x.when(10, 0, 0), 0);
        Due.is("when", x.when(10, 0, 1), -1);
        int[][] notWhen = {{-1, 0, 0}, {11, 0, 0}, {0, -1, 0}, {0, 101, 0}, {0, 0, -1}, {0, 0, 11}};
        for (int[] o : notWhen) {
            Due.is("when of other numbers", x.when(o[0], o[1], o[2]), -1);
        }
        // 50 times 8 by 50 times 8 and 50 times 2
        Due.is("sick N", x.sick(50, 1, 8, 2, 1, false), 4);
        Due.is("sick D", x.sick(50, 1, 8, 2, 1, true), 5);
        Due.is("sick N", x.sick(50, 2, 8, 2, 1, false), 1);
        Due.is("sick D", x.sick(50, 2, 8, 2, 1, true), 2);
        Due.is("sick can't be", x.sick(50, 2, 10, 10, 1, false), 0);
        Due.is("sick can't be", x.sick(50, 2, 10, 10, 1, true), 1);
        int[][] notSick = {{-1, 1, 0, 0, 0}, {101, 1, 0, 0, 0}, {0, 0, 0, 0, 0}, {0, 10, 0, 0, 0}, {0, 1, -1, 0, 0},
            {0, 1, 11, 0, 0}, {0, 1, 0, -1, 0}, {0, 1, 0, 11, 0}, {0, 1, 0, 0, -1}, {0, 1, 0, 0, 2}};
        for (int[] o : notSick) {
            Due.is("sick of other numbers", x.sick(o[0], o[1], o[2], o[3], o[4], false), -1);
        }
        Due.is("call", x.call(50, 2, 8, 2, 5), 1);
        Due.is("call", x.call(50, 2, 8, 2, 6), 2);
        Due.is("call", x.call(50, 2, 8, 2, 0), 0);
        Due.is("call by none", x.call(50, 2, 8, 2, 10), -1);
        int[][] notCall = {{-1, 1, 0, 0, 0}, {101, 1, 0, 0, 0}, {0, 0, 0, 0, 0}, {0, 10, 0, 0, 0}, {0, 1, -1, 0, 0},
            {0, 1, 11, 0, 0}, {0, 1, 0, -1, 0}, {0, 1, 0, 11, 0}, {0, 1, 0, 0, -1}, {0, 1, 0, 0, 11}};
        for (int[] o : notCall) {
            Due.is("call of other numbers", x.call(o[0], o[1], o[2], o[3], o[4]), -1);
        }
    }

    private static void sharedDays() {
        SoupNine x = new SoupNine();
        int[] all = {3, 0, 3, 12};
        int[] few = {4, 0, 1, 6};
        for (int what = 0; what < 4; what++) {
            Due.is("shared, what " + what, x.shared(127, 127, 2, 2, what), all[what]);
            Due.is("shared, what " + what, x.shared(3, 6, 1, 7, what), few[what]);
        }
        Due.is("shared, what 4", x.shared(1, 1, 1, 1, 4), -1);
        Due.is("shared, what -1", x.shared(1, 1, 1, 1, -1), -1);
        int[][] others = {{-1, 0, 0, 0}, {128, 0, 0, 0}, {0, -1, 0, 0}, {0, 128, 0, 0}, {0, 0, -1, 0}, {0, 0, 8, 0},
            {0, 0, 0, -1}, {0, 0, 0, 8}};
        for (int[] o : others) {
            Due.is("shared of other numbers", x.shared(o[0], o[1], o[2], o[3], 0), -1);
        }
        Due.is("nobody may go", x.shared(0, 0, 7, 7, 0), 7);
    }

    private static void turns() {
        SoupNine x = new SoupNine();
        // of four on night 4: r is 1, 0 and 1 go together, 2 twice is 1 by 3
        int[] four = {1, 0, 3, 2};
        // of five on night 6: r is 1, 3 twice is 1 by 5
        int[] five = {1, 0, 4, -1, 2};
        for (int v = 0; v < 4; v++) {
            Due.is("pair(4, 4, " + v + ")", x.pair(4, 4, v), four[v]);
        }
        for (int v = 0; v < 5; v++) {
            Due.is("pair(5, 6, " + v + ")", x.pair(5, 6, v), five[v]);
        }
        Due.is("pair(2, 99, 0)", x.pair(2, 99, 0), 1);
        Due.is("pair(2, 99, 1)", x.pair(2, 99, 1), 0);
        int[][] others = {{1, 0, 0}, {13, 0, 0}, {4, -1, 0}, {4, 100, 0}, {4, 0, -1}, {4, 0, 4}};
        for (int[] o : others) {
            Due.is("pair of other numbers", x.pair(o[0], o[1], o[2]), -2);
        }
    }

    private static void drawnOnes() {
        SoupNine x = Due.told(0, TOWN);
        Due.is("drawn, 0 times", x.drawn(0, 5, 0, 2), 10);
        Due.is("drawn", x.drawn(0, 5, 0, 1), -1);
        Due.is("drawn", x.drawn(0, 5, -1, 2), -2);
        Due.is("drawn", x.drawn(0, 5, 61, 2), -2);
        Due.is("drawn", x.drawn(1, 5, 0, 2), -2);
        Due.is("drawn", x.drawn(0, 5, 0, 7), -2);
        Due.is("drawn", x.drawn(0, 5, 0, 14), -2);
        // seed 1 draws 16838 by 8: 6, a talk at no STOP; then 5758 by 8: 6; then 10113 by 8: 1, 17515 by 4: 3
        int y = 1;
        int[] of = {8, 8, 8, 4};
        int[] due = {6, 6, 1, 3};
        for (int i = 0; i < 4; i++) {
            y = y * 1103515245 + 12345;
            Due.is("a number by the seed", (y >>> 16) % of[i], due[i]);
        }
        Due.is("drawn twice", x.drawn(0, 1, 2, 0), 0);
        Due.is("drawn three times: she drives", x.drawn(0, 1, 3, 1), 3);
        Due.is("drawn three times: minutes", x.drawn(0, 1, 3, 0), 14);
        SoupNine z = Due.told(0, "");
        Due.is("drawn without STOPS", z.drawn(0, 1, 60, 0), 0);
        Due.is("drawn without STOPS", z.drawn(0, 1, 60, 10), -2);
    }

    private static void images() {
        SoupNine x = Due.told(0, TOWN);
        Due.tell(x, 1, -1, EVENING);
        Due.tell(x, 2, -1, BOOK);
        Due.tell(x, 3, -1, LIST);
        Due.tell(x, 3, -1, "shoe 0;");
        Due.tape(x, "talk;talk;");
        Due.is("image(0)", x.image(0), true);
        Due.is("image(3)", x.image(3), false);
        Due.is("image(-1)", x.image(-1), false);
        Due.is("again(1)", x.again(1), false);
        Due.is("way", x.way(0, -1), 11);
        Due.is("mean", x.mean(0, 4, 0, true), 1);
        long mean = x.mean(0, 0, 3, false);
        Due.tell(x, 0, 0, "even 0 0 1 1;");
        Due.tell(x, 1, 0, "talk;");
        Due.tell(x, 1, -1, "talk;");
        Due.tell(x, 2, 0, "");
        Due.tell(x, 3, 0, "");
        Due.is("way is another", x.way(0, -1), 1);
        Due.is("shod is another", x.shod(0, -1), 0);
        Due.is("image(2)", x.image(2), true);
        Due.is("again(0)", x.again(0), true);
        Due.is("fault", x.fault(0), 2);
        Due.is("place", x.fault(1), 5);
        Due.is("way", x.way(0, -1), 11);
        Due.is("mean", x.mean(0, 0, 3, false), mean);
        Due.is("evenings", x.count(1), 1);
        Due.is("deeds", x.deed(0, -1, 0), 8);
        Due.is("nights", x.book(0, -1, 0), 3);
        Due.is("shod", x.shod(0, -1), 11);
        Due.is("the tape", x.text(1, -1), 1);
        Due.is("the tape's deeds", x.deed(1, -1, 0), 2);
        Due.is("again(2)", x.again(2), true);
        Due.is("evenings", x.count(1), 2);
        Due.is("deeds", x.deed(1, -1, 0), 1);
        Due.is("again(0), another time", x.again(0), true);
        Due.is("evenings", x.count(1), 1);
        Due.is("again(1)", x.again(1), false);
        SoupNine y = new SoupNine();
        Due.is("images are its own", y.again(0), false);
    }
}
