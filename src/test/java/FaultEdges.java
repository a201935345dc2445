/** What may stand in a text and what is a FAULT: promises 4 and 5, Terms 1. */
final class FaultEdges {
    private static final String[] KINDS = {"even", "crowded", "empty", "last"};
    private static final String[] THINGS = {"socks", "gloves", "bags"};
    private static final String NINE_STOPS = "last 0 0 0 0;".repeat(9);
    // each line of each sort; those that need others have them
    private static final String[][] LINES = {
        {"even 0 0 0 0;", "crowded 0 0 0 0;", "empty 0 0 0 0;", "last 0 0 0 0;", "home 0 0;", "soup 1;", "pace 1;", "cold 1;",
            "talk 1;", "follow 0 1 1;even 0 0 0 0;even 0 0 0 0;"},
        {"drive 0;", "ladle 1;", "wait 1;", "talk;", "return;"},
        {"night 0 0;", "night 0 0;asked socks 1;", "night 0 0;asked gloves 1;", "night 0 0;asked bags 1;"},
        {"shoe 1;", "foot 1 1;", "hide 0 0 0;"}};

    private FaultEdges() {
    }

    // fault 0: there is none
    private static void fault(int sort, String text, int fault, int place) {
        SoupNine x = new SoupNine();
        Due.is("text of " + text, Due.tell(x, sort, -1, text), fault == 0 ? 0 : -1);
        Due.is("fault(0) of " + text, x.fault(0), fault);
        Due.is("fault(1) of " + text, x.fault(1), place);
    }

    private static void none(int sort, String text) {
        fault(sort, text, 0, -1);
    }

    // each NUMBER that there is between two ends of a text
    private static void numbers(int sort, String ahead, String behind, int least, int most) {
        for (int number = 0; number <= 99; number++) {
            boolean may = number >= least && number <= most;
            fault(sort, ahead + number + behind, may ? 0 : 2, may ? -1 : ahead.length());
        }
    }

    // ---- promise 5: of the latest text

    @Edge(promise = 5, says = {"Of the latest text(), what 0: the FAULT, 0 without", "1: its place, NONE without."})
    static void faultOfTheLatestText() {
        SoupNine x = new SoupNine();
        Due.is("fault(0) ahead of all texts", x.fault(0), 0);
        Due.is("fault(1) ahead of all texts", x.fault(1), -1);
        Due.tell(x, 0, -1, "pace 0;");
        Due.is("fault(0)", x.fault(0), 2);
        Due.is("fault(1)", x.fault(1), 5);
        Due.tell(x, 0, -1, "!");
        Due.is("fault(0) of another text", x.fault(0), 1);
        Due.is("fault(1) of another text", x.fault(1), 0);
        Due.tell(x, 1, -1, "talk;");
        Due.is("fault(0) of a text without", x.fault(0), 0);
        Due.is("fault(1) of a text without", x.fault(1), -1);
    }

    @Edge(promise = 5, says = "Of the latest text(), what 0: the FAULT")
    static void otherCallsLeaveTheFault() {
        SoupNine x = new SoupNine();
        Due.tell(x, 0, -1, "pace 0;");
        x.feed(0, 0, 0, 0, 0);
        x.end(3);
        x.end(-1);
        x.town(0, 0);
        x.image(0);
        Due.is("fault(0)", x.fault(0), 2);
        Due.is("fault(1)", x.fault(1), 5);
    }

    @Edge(promise = 5, says = "NONE for another what.")
    static void faultOfAnotherWhat() {
        SoupNine x = new SoupNine();
        for (int i = 0; i < 2; i++) {
            for (int what : new int[] {-1, -2, 2, 3, Integer.MIN_VALUE, Integer.MAX_VALUE}) {
                Due.is("fault(" + what + ")", x.fault(what), -1);
            }
            Due.tell(x, 0, -1, "pace 0;");
        }
    }

    // ---- numbers, the least and the greatest

    @Edge(promise = 4, says = {"STOPS, at most 9, from 0 on: a KIND, a place, LEAST, 0 .. 20, MOST, LEAST .. 20: how many may"
            + " come;",
        "(('even' | 'crowded' | 'empty' | 'last') NUMBER NUMBER NUMBER NUMBER", "(even and so on: x, y, LEAST, MOST;",
        "KINDS: 0 EVEN, 1 CROWDED, 2 EMPTY, 3 LAST."})
    static void numbersOfAStop() {
        for (int kind = 0; kind < 4; kind++) {
            numbers(0, KINDS[kind] + " ", " 0 0 0;", 0, 9);
            numbers(0, KINDS[kind] + " 0 ", " 0 0;", 0, 9);
            numbers(0, KINDS[kind] + " 0 0 ", " 20;", 0, 20);
            for (int least : new int[] {0, 1, 7, 19, 20}) {
                numbers(0, KINDS[kind] + " 0 0 " + least + " ", ";", least, 20);
            }
            SoupNine x = Due.told(0, KINDS[kind] + " 1 2 3 4;");
            for (int tens = 1; tens < 6; tens++) {
                Due.is("town(0, " + 10 * tens + ")", x.town(0, 10 * tens), tens == 1 ? kind : tens - 1);
            }
        }
    }

    @Edge(promise = 4, says = "MOST, LEAST .. 20")
    static void bothLeastAndMostCannotBe() {
        fault(0, "even 0 0 21 5;", 2, 9);
        fault(0, "even 0 0 21 21;", 2, 9);
        fault(0, "even 0 0 21 30;", 2, 9);
    }

    @Edge(promise = 4, says = {"| 'follow' NUMBER NUMBER NUMBER", "follow: from a STOP, 0 .. 8, to another one, how many).",
        "FOLLOWERS: of each STOP how many of those who were fed there, 0 .. 9 (0 at first), go on to another STOP;",
        "of follow the second STOP, if it is the first;"})
    static void numbersOfFollow() {
        for (int number = 0; number <= 99; number++) {
            String text = "follow " + number + " " + (number == 4 ? 5 : 4) + " 1;" + NINE_STOPS;
            fault(0, text, number <= 8 ? 0 : 2, number <= 8 ? -1 : 7);
            boolean another = number <= 8 && number != 3;
            fault(0, "follow 3 " + number + " 1;" + NINE_STOPS, another ? 0 : 2, another ? -1 : 9);
        }
        for (int number = 0; number <= 9; number++) {
            fault(0, "follow " + number + " " + number + " 1;" + NINE_STOPS, 2, number < 9 ? 9 : 7);
        }
        numbers(0, "follow 8 0 ", ";" + NINE_STOPS, 0, 9);
    }

    @Edge(promise = 4, says = {"A TOWN has a HOME, x, y, 0 .. 9 each (0, 0 at first);", "| 'home' NUMBER NUMBER"})
    static void numbersOfHome() {
        numbers(0, "home ", " 0;", 0, 9);
        numbers(0, "home 0 ", ";", 0, 9);
    }

    @Edge(promise = 4, says = {"SOUP, 0 .. 99 bowls (60);", "PACE, 1 .. 9 minutes for each step (2);",
        "COLD, 0 .. 99: the minute from which soup is cold (60);", "TALK, 1 .. 30 minutes (9).",
        "| ('soup' | 'pace' | 'cold' | 'talk') NUMBER) ';'}"})
    static void numbersOfSoupPaceColdTalk() {
        numbers(0, "soup ", ";", 0, 99);
        numbers(0, "pace ", ";", 1, 9);
        numbers(0, "cold ", ";", 0, 99);
        numbers(0, "talk ", ";", 1, 30);
    }

    @Edge(promise = 4, says = {"(('drive' | 'ladle' | 'wait') NUMBER | 'talk' | 'return') ';'}",
        "(drive: a STOP, 0 .. 8; ladle: bowls, 1 .. 40; wait: minutes, 1 .. 60)."})
    static void numbersOfDeeds() {
        numbers(1, "drive ", ";", 0, 8);
        numbers(1, "ladle ", ";", 1, 40);
        numbers(1, "wait ", ";", 1, 60);
        fault(1, "talk 1;", 1, 5);
        fault(1, "return 1;", 1, 7);
        fault(1, "drive;", 1, 5);
        fault(1, "ladle;", 1, 5);
        fault(1, "wait;", 1, 4);
    }

    @Edge(promise = 4, says = {"how many were SEEN, 0 .. 99, how many of these AGAIN (had been seen on a night ahead), 0 .."
            + " SEEN;",
        "('night' NUMBER NUMBER", "(night: SEEN, AGAIN;"})
    static void numbersOfNights() {
        numbers(2, "night ", " 0;", 0, 99);
        for (int seen : new int[] {0, 1, 42, 98, 99}) {
            numbers(2, "night " + seen + " ", ";", 0, seen);
        }
    }

    @Edge(promise = 4, says = {"ASKED of three THINGS, 0 .. 99 each (0 at first): 0 SOCKS, 1 GLOVES, 2 BAGS.", "| 'asked' THING"
            + " NUMBER) ';'}",
        "THING: 'socks' | 'gloves' | 'bags'."})
    static void numbersOfAsked() {
        for (String thing : THINGS) {
            numbers(2, "night 1 1;asked " + thing + " ", ";", 0, 99);
        }
        fault(2, "night 1 1;asked boots 1;", 1, 16);
        fault(2, "night 1 1;asked sock 1;", 1, 16);
        fault(2, "night 1 1;asked sockss 1;", 1, 16);
        fault(2, "night 1 1;asked 1;", 1, 16);
        fault(2, "night 1 1;asked;", 1, 15);
        fault(2, "night 1 1;asked socks gloves 1;", 1, 22);
        fault(2, "night 1 1;socks 1;", 1, 10);
    }

    @Edge(promise = 4, says = {"a size, 1 .. 20; FEET", "a size, 1 .. 20, NEED, 0 .. 9;", "a place, ODDS, 0 .. 20.",
        "('shoe' NUMBER | 'foot' NUMBER NUMBER | 'hide' NUMBER NUMBER NUMBER) ';'} (hide: x, y, ODDS)."})
    static void numbersOfLists() {
        numbers(3, "shoe ", ";", 1, 20);
        numbers(3, "foot ", " 0;", 1, 20);
        numbers(3, "foot 1 ", ";", 0, 9);
        numbers(3, "hide ", " 0 0;", 0, 9);
        numbers(3, "hide 0 ", " 0;", 0, 9);
        numbers(3, "hide 0 0 ", ";", 0, 20);
    }

    // ---- tokens

    @Edge(promise = 4, says = {"TOKENS, as long as they go, blanks (10, 32) between", "1 the first byte or token with which no"
            + " text goes on"})
    static void aSingleByte() {
        for (int b = 0; b < 256; b++) {
            boolean blank = b == 10 || b == 32;
            for (int sort = 0; sort < 4; sort++) {
                fault(sort, "" + (char) b, blank ? 0 : 1, blank ? -1 : 0);
            }
        }
    }

    @Edge(promise = 4, says = {"words, rows of letters a .. z;", "; one byte.", "TOKENS, as long as they go"})
    static void aByteBehindAWord() {
        for (int b = 0; b < 256; b++) {
            boolean blank = b == 10 || b == 32;
            int place = b >= 'a' && b <= 'z' ? 0 : b == ';' ? 5 : 4;
            fault(1, "talk" + (char) b + ";", blank ? 0 : 1, blank ? -1 : place);
            fault(1, (char) b + "talk;", blank ? 0 : 1, blank ? -1 : 0);
        }
    }

    @Edge(promise = 4, says = {"NUMBERS, 1 or 2 digits;", "TOKENS, as long as they go"})
    static void aByteBehindADigit() {
        for (int b = 0; b < 256; b++) {
            boolean goesOn = b == 10 || b == 32 || b >= '0' && b <= '9';
            fault(1, "wait 1" + (char) b + ";", goesOn ? 0 : 1, goesOn ? -1 : b == ';' ? 7 : 6);
        }
    }

    @Edge(promise = 4, says = {"(a longer row of digits is no token).", "NUMBERS, 1 or 2 digits;"})
    static void longerRowsOfDigits() {
        none(1, "wait 01;");
        none(1, "wait 09;");
        fault(1, "wait 00;", 2, 5);
        fault(1, "wait 001;", 1, 5);
        fault(1, "wait 100;", 1, 5);
        fault(1, "wait 1000;", 1, 5);
        fault(1, "wait 4294967297;", 1, 5);
        fault(1, "wait " + "1".repeat(595), 1, 5);
        fault(0, "even 000 0 0 0;", 1, 5);
        fault(0, "even 0 0 0 000;", 1, 11);
        fault(0, "soup 100;", 1, 5);
        fault(0, "soup 099;", 1, 5);
        fault(0, "soup 1 00;", 1, 7);
        fault(2, "night 100 0;", 1, 6);
        SoupNine x = Due.told(1, "wait 08;wait 8;");
        Due.is("wait 08", x.deed(0, 0, 1), 8);
        Due.is("wait 8", x.deed(0, 1, 1), 8);
    }

    @Edge(promise = 4, says = "blanks (10, 32) between")
    static void blanksBetween() {
        none(1, "talk;return;drive1;ladle40;wait60;");
        none(1, " \n  talk \n ; \n\n wait\n\n60\n;\n ");
        none(0, "even0 0 0 0;");
        fault(0, "even 00 0 0;", 1, 11);
        fault(1, "ta lk;", 1, 0);
        fault(1, "wait 1 0;", 1, 7);
        fault(1, "wait 1\n0;", 1, 7);
        fault(1, "talk\t;", 1, 4);
        fault(1, "talk;\r\n", 1, 5);
        fault(1, "talk;\0", 1, 5);
    }

    @Edge(promise = 4, says = {"TOKENS, as long as they go", "words, rows of letters a .. z;"})
    static void wordsAreWhole() {
        for (int sort = 0; sort < 4; sort++) {
            for (String line : LINES[sort]) {
                int word = 0;
                for (int i = 0; i < line.length(); i++) {
                    if (!Character.isLetter(line.charAt(i))) {
                        word = i + 1;
                        continue;
                    }
                    // another letter in its place, one letter too few, one too many
                    fault(sort, line.substring(0, i) + 'q' + line.substring(i + 1), 1, word);
                    fault(sort, line.substring(0, i) + line.substring(i + 1), 1, word);
                    fault(sort, line.substring(0, i) + 'q' + line.substring(i), 1, word);
                }
            }
        }
        fault(1, "talktalk;", 1, 0);
        fault(1, "talk;waitwait 1;", 1, 5);
        fault(1, "Talk;", 1, 0);
        fault(1, "talK;", 1, 0);
        fault(1, "talkK;", 1, 4);
        fault(0, "evens 0 0 0 0;", 1, 0);
        fault(0, "homes 0 0;", 1, 0);
        fault(3, "shoes 1;", 1, 0);
    }

    // ---- FAULT 1

    @Edge(promise = 5, says = {"A TOWN's text: {", "An EVENING's text: {", "A BOOK's text: {", "A LIST's text: {",
        "FAULTS of all, with places (a token's first byte; the end's): 1 the first byte or token with which no text goes on"})
    static void linesOfEachSort() {
        for (int sort = 0; sort < 4; sort++) {
            for (int other = 0; other < 4; other++) {
                for (String line : LINES[other]) {
                    // 'talk' is a word of TOWNS and of EVENINGS: the other one's goes wrong behind it
                    int place = sort == 0 && line.equals("talk;") ? 4 : sort == 1 && line.equals("talk 1;") ? 5 : 0;
                    fault(sort, line, sort == other ? 0 : 1, sort == other ? -1 : place);
                }
            }
        }
    }

    @Edge(promise = 5, says = "the end's): 1 the first byte or token with which no text goes on")
    static void textsThatEndTooSoon() {
        for (int sort = 0; sort < 4; sort++) {
            for (String line : LINES[sort]) {
                String text = line.substring(0, line.indexOf(';') + 1);
                int end = text.indexOf(' ') < 0 ? text.length() - 1 : text.indexOf(' ');
                for (int n = end; n < text.length(); n++) {
                    fault(sort, text.substring(0, n), 1, n);
                    fault(sort, text.substring(0, n) + " \n", 1, n + 2);
                    fault(sort, text + text.substring(0, n), 1, text.length() + n);
                }
                // a word that is not whole is a token with which no text goes on
                fault(sort, text.substring(0, end - 1), 1, 0);
            }
        }
        fault(2, "night 0 0;asked", 1, 15);
        fault(2, "night 0 0;asked ", 1, 16);
        fault(2, "night 0 0;asked sock", 1, 16);
        fault(2, "night 0 0;asked socks", 1, 21);
        fault(2, "night 0 0;asked socks 1", 1, 23);
        fault(1, " ".repeat(596) + "talk", 1, 600);
        fault(1, " ".repeat(595) + "talk ", 1, 600);
    }

    @Edge(promise = 5, says = {"1 the first byte or token with which no text goes on", "If there is none, the first by place"})
    static void faultOneIsAheadOfAllOthers() {
        fault(0, "pace 0;!", 1, 7);
        fault(0, "pace 0", 1, 6);
        fault(0, "last 0 0 0 0;".repeat(10) + "x", 1, 130);
        fault(2, "asked socks 1;night", 1, 19);
        fault(0, "follow 0 1 1;;", 1, 13);
        fault(0, "!pace 0;", 1, 0);
        fault(0, "!;?;", 1, 0);
    }

    // ---- FAULTS 2, 3, 4

    @Edge(promise = 5, says = {"If there is none, the first by place, of one place the least: 2 a NUMBER that can't be (as"
            + " above;",
        "FAULTS of all, with places (a token's first byte;"})
    static void theFirstFaultByPlace() {
        fault(0, "pace 0;talk 0;", 2, 5);
        fault(0, "even 10 10 21 0;", 2, 5);
        fault(0, "pace  \n 10;", 2, 8);
        fault(2, "night 1 2;asked socks 1;", 2, 8);
        fault(2, "asked socks 1;night 1 2;", 4, 0);
        fault(2, "asked socks 1;" + "night 0 0;".repeat(11), 4, 0);
        fault(2, "night 0 0;".repeat(11) + "night 1 2;", 3, 100);
        fault(2, "night 0 0;".repeat(9) + "night 1 2;night 0 0;", 2, 98);
        fault(3, "shoe 1;".repeat(7) + "foot 1 1;".repeat(9), 3, 42);
        fault(3, "foot 1 1;".repeat(9) + "shoe 1;".repeat(7), 3, 72);
        fault(0, "pace 0;follow 0 1 1;", 2, 5);
        fault(0, "follow 0 1 1;pace 0;", 2, 18);
    }

    @Edge(promise = 5, says = "a line with such a NUMBER tells its STOP, DEED, NIGHT, SHOE, FOOT, HIDE all the same);")
    static void aLineWithAWrongNumber() {
        fault(0, "even 10 0 0 0;" + "last 0 0 0 0;".repeat(9), 2, 5);
        fault(1, "drive 9;" + "talk;".repeat(40), 2, 6);
        fault(2, "night 5 6;asked socks 1;" + "night 0 0;".repeat(10), 2, 8);
        fault(3, "shoe 0;" + "shoe 1;".repeat(6), 2, 5);
        fault(3, "foot 0 0;" + "foot 1 1;".repeat(8), 2, 5);
        fault(3, "hide 0 0 21;" + "hide 0 0 0;".repeat(8), 2, 9);
        fault(0, "follow 1 0 1;even 0 0 0 0;even 0 0 0 99;", 2, 37);
    }

    @Edge(promise = 5, says = "3 a 10th STOP, a 41st DEED, an 11th NIGHT, a 7th SHOE, a 9th FOOT, a 9th HIDE, at its first"
            + " token;")
    static void oneMoreThanMayBeWithAWrongNumber() {
        fault(0, NINE_STOPS + "even 99 0 0 0;", 3, 117);
        fault(1, "talk;".repeat(40) + "wait 0;", 3, 200);
        fault(2, "night 0 0;".repeat(10) + "night 0 1;", 3, 100);
        fault(3, "shoe 1;".repeat(6) + "shoe 0;", 3, 42);
        fault(3, "foot 1 1;".repeat(8) + "foot 0 1;", 3, 72);
        fault(3, "hide 0 0 0;".repeat(8) + "hide 99 0 0;", 3, 88);
    }

    private static void atMost(int sort, String line, int many, int what) {
        SoupNine x = Due.told(sort, line.repeat(many));
        Due.is("how many there are", sort == 0 ? x.town(0, what) : sort == 1 ? x.deed(0, -1, 0)
                : sort == 2 ? x.book(0, -1, 0) : x.list(0, what), many);
        fault(sort, line.repeat(many + 1), 3, many * line.length());
        fault(sort, " " + line.repeat(many) + "\n " + line.repeat(2), 3, many * line.length() + 3);
    }

    @Edge(promise = 5, says = {"STOPS, at most 9, from 0 on", "3 a 10th STOP"})
    static void atMostNineStops() {
        for (String kind : KINDS) {
            atMost(0, kind + " 0 0 0 0;", 9, 6);
        }
        fault(0, "even 0 0 0 0;".repeat(5) + "last 0 0 0 0;".repeat(5), 3, 117);
        none(0, NINE_STOPS + "home 1 1;soup 1;pace 1;cold 1;talk 1;" + "follow 0 1 1;".repeat(30));
    }

    @Edge(promise = 5, says = {"An EVENING has DEEDS, at most 40, from 0 on.", "a 41st DEED"})
    static void atMostFortyDeeds() {
        for (String deed : LINES[1]) {
            atMost(1, deed, 40, 0);
        }
        fault(1, "talk;wait 1;".repeat(20) + "return;", 3, 240);
    }

    @Edge(promise = 5, says = {"A BOOK has NIGHTS, at most 10, from 0 on:", "an 11th NIGHT"})
    static void atMostTenNights() {
        atMost(2, "night 0 0;", 10, 0);
        none(2, "night 0 0;".repeat(10) + "asked socks 1;".repeat(30));
    }

    @Edge(promise = 5, says = {"A LIST has SHOES, at most 6, from 0 on:", "FEET, at most 8, from 0 on:", "HIDES, at most 8, from"
            + " 0 on:",
        "a 7th SHOE, a 9th FOOT, a 9th HIDE"})
    static void atMostSixShoesEightFeetEightHides() {
        atMost(3, "shoe 1;", 6, 0);
        atMost(3, "foot 1 1;", 8, 1);
        atMost(3, "hide 0 0 0;", 8, 2);
        none(3, "shoe 1;".repeat(6) + "foot 1 1;".repeat(8) + "hide 0 0 0;".repeat(8));
    }

    @Edge(promise = 5, says = {"4 'asked' ahead of all NIGHTS, at its first token.", "asked: of the latest NIGHT)."})
    static void askedAheadOfAllNights() {
        for (String thing : THINGS) {
            fault(2, "asked " + thing + " 0;", 4, 0);
        }
        fault(2, " \n asked socks 1;night 0 0;", 4, 3);
        fault(2, "asked socks 1;asked bags 1;", 4, 0);
        none(2, "night 0 0;asked socks 1;");
    }

    // ---- FAULT 5

    @Edge(promise = 5, says = {"If there is none of these, at the end's place, of a TOWN: 5 a STOP that was told of (by follow)"
            + " and is not there."})
    static void followOfNoSuchStop() {
        fault(0, "follow 0 1 1;", 5, 13);
        fault(0, "follow 0 1 0;even 0 0 0 0;", 5, 26);
        fault(0, "follow 1 0 0;even 0 0 0 0; \n", 5, 28);
        none(0, "follow 1 0 0;even 0 0 0 0;even 0 0 0 0;");
        none(0, "even 0 0 0 0;follow 1 0 0;even 0 0 0 0;");
        for (int stops = 0; stops <= 9; stops++) {
            String text = "last 0 0 0 0;".repeat(stops);
            for (int told = 1; told <= 8; told++) {
                boolean there = told < stops;
                fault(0, text + "follow 0 " + told + " 1;", there ? 0 : 5, there ? -1 : text.length() + 13);
                fault(0, "follow " + told + " 0 1;" + text, there ? 0 : 5, there ? -1 : text.length() + 13);
            }
        }
        fault(0, " ".repeat(587) + "follow 0 1 1;", 5, 600);
    }

    @Edge(promise = 5, says = "5 a STOP that was told of (by follow) and is not there.")
    static void aStruckFollowToldOfAStopAllTheSame() {
        fault(0, "even 0 0 0 0;even 0 0 0 0;follow 0 2 1;follow 0 1 1;", 5, 52);
    }

    // ---- later ones

    @Edge(promise = 4, says = "Later ones strike (follow: that of its first STOP)")
    static void laterOnesStrike() {
        SoupNine x = Due.told(0, "home 1 2;soup 3;pace 4;cold 5;talk 6;home 8 7;soup 6;pace 5;cold 4;talk 3;");
        int[] due = {8, 7, 6, 5, 4, 3};
        for (int what = 0; what < 6; what++) {
            Due.is("town(0, " + what + ")", x.town(0, what), due[what]);
        }
        Due.tell(x, 0, 0, "last 0 0 0 0;".repeat(3) + "follow 0 1 5;follow 1 2 6;follow 0 2 0;");
        Due.is("FOLLOWERS of 0", x.town(0, 60), 0);
        Due.is("to which STOP", x.town(0, 70), 2);
        Due.is("FOLLOWERS of 1", x.town(0, 61), 6);
        Due.is("to which STOP", x.town(0, 71), 2);
    }

    @Edge(promise = 4, says = {"Later ones strike", "asked: of the latest NIGHT)."})
    static void laterAskedStrikesOfItsNight() {
        SoupNine x = Due.told(2, "night 1 0;asked socks 5;asked bags 6;night 2 0;asked socks 7;asked socks 0;asked socks 8;");
        int[][] due = {{1, 0, 5, 0, 6}, {2, 0, 8, 0, 0}};
        for (int k = 0; k < 2; k++) {
            for (int what = 0; what < 5; what++) {
                Due.is("book(0, " + k + ", " + what + ")", x.book(0, k, what), due[k][what]);
            }
        }
    }

    @Edge(promise = 4, says = ", but STOPS, DEEDS, NIGHTS, SHOES, FEET, HIDES, which are further ones.")
    static void furtherOnes() {
        SoupNine x = Due.told(0, "even 1 1 1 1;even 1 1 1 1;last 2 2 2 2;");
        Due.is("STOPS", x.town(0, 6), 3);
        Due.is("KIND of the last", x.town(0, 12), 3);
        Due.tell(x, 1, -1, "talk;talk;wait 1;wait 2;");
        Due.is("DEEDS", x.deed(0, -1, 0), 4);
        Due.is("the last one's number", x.deed(0, 3, 1), 2);
        Due.tell(x, 2, -1, "night 1 1;night 1 1;night 2 2;");
        Due.is("NIGHTS", x.book(0, -1, 0), 3);
        Due.is("SEEN of the last", x.book(0, 2, 0), 2);
        Due.tell(x, 3, -1, "shoe 1;foot 1 1;hide 1 1 1;shoe 1;foot 1 1;hide 1 1 1;shoe 2;foot 2 2;hide 2 2 2;");
        for (int what = 0; what < 3; what++) {
            Due.is("list(0, " + what + ")", x.list(0, what), 3);
        }
        for (int tens = 1; tens < 7; tens++) {
            Due.is("list(0, " + (10 * tens + 2) + ")", x.list(0, 10 * tens + 2), 2);
        }
    }
}
