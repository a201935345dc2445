/** The tape, how texts are taken, images: promises 1 to 4 and 39 to 41. */
final class TapeEdges {
    private static final int BLANKS = 0x20202020;
    private static final int MIN = Integer.MIN_VALUE;
    private static final int MAX = Integer.MAX_VALUE;
    // a short text of each sort, and another one
    private static final String[] ONE = {"soup 7;", "talk;", "night 7 1;", "shoe 7;"};
    private static final String[] OTHER = {"soup 8;", "talk;wait 8;", "night 8 1;", "shoe 8;"};

    private TapeEdges() {
    }

    private static void blanks(SoupNine x, int times) {
        for (int i = 0; i < times; i++) {
            x.feed(BLANKS, BLANKS, BLANKS, BLANKS, BLANKS);
        }
    }

    // what tells ONE and OTHER of a sort apart: 7, 8
    private static int mark(SoupNine x, int sort, int k) {
        switch (sort) {
            case 0:
                return x.town(k, 2);
            case 1:
                return x.deed(k, -1, 0) + 6;
            case 2:
                return x.book(k, 0, 0);
            default:
                return x.list(k, 10);
        }
    }

    // ---- promise 1

    @Edge(promise = 1, says = "No TOWNS, EVENINGS, BOOKS, LISTS; no images.")
    static void newObjectHasNothing() {
        SoupNine x = new SoupNine();
        for (int sort = 0; sort < 4; sort++) {
            Due.is("count(" + sort + ")", x.count(sort), 0);
        }
        for (int k = 0; k < 3; k++) {
            Due.is("again(" + k + ")", x.again(k), false);
        }
        Due.is("end(1): its tape is empty", x.end(1), -1);
    }

    @Edge(promise = 1, says = "No TOWNS, EVENINGS, BOOKS, LISTS; no images.")
    static void newObjectHasNothingOfAnEarlierOne() {
        SoupNine x = Due.told(0, "soup 7;");
        x.image(0);
        SoupNine y = new SoupNine();
        Due.is("count(0)", y.count(0), 0);
        Due.is("town(0, 2)", y.town(0, 2), -2);
        Due.is("again(0)", y.again(0), false);
    }

    // ---- promise 2

    @Edge(promise = 2, says = {"The tape: twenty bytes come behind it", ": how many it has"})
    static void feedTellsHowManyThereAre() {
        SoupNine x = new SoupNine();
        Due.is("the first feed", x.feed(0, 0, 0, 0, 0), 20);
        Due.is("the second feed", x.feed(-1, -1, -1, -1, -1), 40);
        x.end(7);
        Due.is("feed behind 7 bytes", x.feed(MIN, MAX, 0, 1, 2), 27);
    }

    @Edge(promise = 2, says = {"twenty bytes come behind it, of each number the highest first", "THE TAPE has at most 600"
            + " bytes."})
    static void feedPutsEachByteInItsPlace() {
        for (int place = 0; place < 20; place++) {
            int[] five = {BLANKS, BLANKS, BLANKS, BLANKS, BLANKS};
            // 0xff is no byte of a text: it is a FAULT in its place
            five[place / 4] |= 0xff << 24 - 8 * (place % 4);
            for (int ahead : new int[] {0, 1, 29}) {
                SoupNine x = new SoupNine();
                blanks(x, ahead);
                x.feed(five[0], five[1], five[2], five[3], five[4]);
                Due.is("text", x.text(0, -1), -1);
                Due.is("the odd byte's place", x.fault(1), 20 * ahead + place);
            }
        }
    }

    @Edge(promise = 2, says = "NONE, and nothing comes, if there would be more than 600.")
    static void feedUpTo600() {
        SoupNine x = new SoupNine();
        for (int i = 1; i <= 30; i++) {
            Due.is("feed", x.feed(BLANKS, BLANKS, BLANKS, BLANKS, BLANKS), 20 * i);
        }
        Due.is("feed of a full tape", x.feed(0, 0, 0, 0, 0), -1);
        Due.is("end(600)", x.end(600), 600);
        for (int n = 599; n > 580; n--) {
            x.end(n);
            Due.is("feed behind " + n + " bytes", x.feed(0, 0, 0, 0, 0), -1);
        }
        x.end(580);
        Due.is("feed behind 580 bytes", x.feed(0, 0, 0, 0, 0), 600);
    }

    @Edge(promise = 2, says = "NONE, and nothing comes, if there would be more than 600.")
    static void nothingComesByARefusedFeed() {
        SoupNine x = new SoupNine();
        blanks(x, 30);
        x.end(581);
        x.feed(-1, -1, -1, -1, -1);
        Due.is("end(582): there are 581 still", x.end(582), -1);
        Due.is("text: none of its bytes is there", x.text(0, -1), 0);
    }

    // ---- promise 3

    @Edge(promise = 3, says = "The tape has its first n bytes alone: n.")
    static void endKeepsTheFirstBytes() {
        SoupNine x = new SoupNine();
        Due.tape(x, "talk;talk;!");
        Due.is("end(11), all of them", x.end(11), 11);
        Due.is("end(10)", x.end(10), 10);
        Due.is("text", x.text(1, -1), 0);
        Due.is("deeds", x.deed(0, -1, 0), 2);
    }

    @Edge(promise = 3, says = "The tape has its first n bytes alone: n.")
    static void endOfNothing() {
        SoupNine x = new SoupNine();
        Due.is("end(0) of an empty tape", x.end(0), 0);
        Due.tape(x, "!");
        Due.is("end(0)", x.end(0), 0);
        Due.is("an empty text", x.text(1, -1), 0);
        Due.is("deeds", x.deed(0, -1, 0), 0);
    }

    @Edge(promise = 3, says = "NONE if it has not so many")
    static void endOfMoreThanThereAre() {
        SoupNine x = new SoupNine();
        Due.is("end(1) of an empty tape", x.end(1), -1);
        blanks(x, 1);
        Due.is("end(21)", x.end(21), -1);
        Due.is("end(MAX)", x.end(MAX), -1);
        Due.is("feed: there are twenty still", x.feed(0, 0, 0, 0, 0), 40);
        x.end(5);
        Due.is("end(6): those behind are gone", x.end(6), -1);
        blanks(x, 29);
        x.end(5);
        blanks(x, 29);
        Due.is("end(586)", x.end(586), -1);
        Due.is("end(585)", x.end(585), 585);
    }

    @Edge(promise = 3, says = "or n is below 0.")
    static void endBelowNothing() {
        SoupNine x = new SoupNine();
        blanks(x, 1);
        Due.is("end(-1)", x.end(-1), -1);
        Due.is("end(-2)", x.end(-2), -1);
        Due.is("end(MIN)", x.end(MIN), -1);
        Due.is("end(20): there are twenty still", x.end(20), 20);
    }

    // ---- promise 4

    @Edge(promise = 4, says = {"The tape is taken (and is empty then) as a text of a sort, a further one (at NONE)", ": its"
            + " number.",
        "TOWNS, at most 2 (sort 0), EVENINGS, at most 2 (1), BOOKS, at most 2 (2), LISTS, at most 2 (3), from 0 on."})
    static void textOfEachSort() {
        SoupNine x = new SoupNine();
        for (int sort = 0; sort < 4; sort++) {
            Due.is("text(" + sort + ", -1)", Due.tell(x, sort, -1, ONE[sort]), 0);
            Due.is("the tape is empty", x.end(1), -1);
            Due.is("count", x.count(sort), 1);
            Due.is("text(" + sort + ", -1)", Due.tell(x, sort, -1, OTHER[sort]), 1);
            Due.is("the tape is empty", x.end(1), -1);
            Due.is("count", x.count(sort), 2);
            Due.is("the first", mark(x, sort, 0), 7);
            Due.is("the second", mark(x, sort, 1), 8);
        }
    }

    @Edge(promise = 4, says = {"or in the place of one: its number."})
    static void textInThePlaceOfOne() {
        for (int sort = 0; sort < 4; sort++) {
            SoupNine x = new SoupNine();
            Due.tell(x, sort, -1, ONE[sort]);
            Due.is("text(" + sort + ", 0) of one", Due.tell(x, sort, 0, OTHER[sort]), 0);
            Due.is("count", x.count(sort), 1);
            Due.is("it is the other", mark(x, sort, 0), 8);
            Due.tell(x, sort, -1, OTHER[sort]);
            Due.is("text(" + sort + ", 0) of two", Due.tell(x, sort, 0, ONE[sort]), 0);
            Due.is("the first is another", mark(x, sort, 0), 7);
            Due.is("the second is as it was", mark(x, sort, 1), 8);
            Due.is("text(" + sort + ", 1) of two", Due.tell(x, sort, 1, ONE[sort]), 1);
            Due.is("the second is another", mark(x, sort, 1), 7);
            Due.is("count", x.count(sort), 2);
            Due.is("the tape is empty", x.end(1), -1);
        }
    }

    @Edge(promise = 4, says = "in the place of one")
    static void nothingIsLeftOfTheOneAhead() {
        SoupNine x = Due.told(0, "home 9 9;soup 1;pace 9;cold 1;talk 1;even 1 1 1 1;even 2 2 2 2;follow 0 1 9;");
        Due.is("text", Due.tell(x, 0, 0, "even 3 3 3 3;"), 0);
        int[] first = {0, 0, 60, 2, 60, 9, 1};
        for (int what = 0; what < 7; what++) {
            Due.is("town(0, " + what + ")", x.town(0, what), first[what]);
        }
        Due.is("FOLLOWERS", x.town(0, 60), 0);
        Due.is("to none", x.town(0, 70), -1);
        Due.tell(x, 2, -1, "night 5 0;asked socks 1;asked gloves 2;asked bags 3;");
        Due.tell(x, 2, 0, "night 6 0;");
        for (int what = 2; what < 5; what++) {
            Due.is("ASKED", x.book(0, 0, what), 0);
        }
        Due.tell(x, 3, -1, "shoe 1;foot 1 1;hide 1 1 1;");
        Due.tell(x, 3, 0, "");
        for (int what = 0; what < 3; what++) {
            Due.is("list(0, " + what + ")", x.list(0, what), 0);
        }
        Due.tell(x, 1, -1, "wait 5;");
        Due.tell(x, 1, 0, "talk;");
        Due.is("a number of none", x.deed(0, 0, 1), -1);
    }

    @Edge(promise = 4, says = {"The tape is taken (and is empty then)", "A TOWN's text: {", "An EVENING's text: {", "A BOOK's"
            + " text: {",
        "A LIST's text: {"})
    static void emptyTextOfEachSort() {
        SoupNine x = new SoupNine();
        for (int sort = 0; sort < 4; sort++) {
            Due.is("text of an empty tape", x.text(sort, -1), 0);
            Due.is("fault(0)", x.fault(0), 0);
            Due.is("count", x.count(sort), 1);
            blanks(x, 30);
            Due.is("text of 600 blanks", x.text(sort, -1), 1);
        }
        Due.is("STOPS", x.town(0, 6), 0);
        Due.is("DEEDS", x.deed(0, -1, 0), 0);
        Due.is("NIGHTS", x.book(0, -1, 0), 0);
        Due.is("SHOES", x.list(0, 0), 0);
    }

    @Edge(promise = 4, says = {"NONE: a FAULT.", "The tape is taken (and is empty then)"})
    static void textWithAFaultTellsNothing() {
        for (int sort = 0; sort < 4; sort++) {
            SoupNine x = new SoupNine();
            Due.is("text, a further one", Due.tell(x, sort, -1, ONE[sort] + "!"), -1);
            Due.is("the tape is empty", x.end(1), -1);
            Due.is("count", x.count(sort), 0);
            Due.tell(x, sort, -1, ONE[sort]);
            Due.is("text in its place", Due.tell(x, sort, 0, OTHER[sort] + "!"), -1);
            Due.is("count", x.count(sort), 1);
            Due.is("it is as it was", mark(x, sort, 0), 7);
            Due.is("text, a further one", Due.tell(x, sort, -1, OTHER[sort] + "!"), -1);
            Due.is("count", x.count(sort), 1);
        }
    }

    // the tape would have a FAULT, and so had the text ahead
    private static void unread(SoupNine x, int sort, int at) {
        String call = "text(" + sort + ", " + at + ")";
        Due.tell(x, 1, -1, "wait 0;");
        Due.tape(x, "!");
        int[] counts = {x.count(0), x.count(1), x.count(2), x.count(3)};
        Due.is(call, x.text(sort, at), -2);
        Due.is("fault(0) behind " + call, x.fault(0), 0);
        Due.is("fault(1) behind " + call, x.fault(1), -1);
        Due.is("the tape is empty behind " + call, x.end(1), -1);
        for (int s = 0; s < 4; s++) {
            Due.is("count behind " + call, x.count(s), counts[s]);
        }
    }

    @Edge(promise = 4, says = "-2: there is none such")
    static void textInThePlaceOfNone() {
        for (int sort = 0; sort < 4; sort++) {
            SoupNine x = new SoupNine();
            unread(x, sort, 0);
            unread(x, sort, 1);
            Due.tell(x, sort, -1, ONE[sort]);
            unread(x, sort, 1);
            unread(x, sort, 2);
            unread(x, sort, -2);
            unread(x, sort, MIN);
            unread(x, sort, MAX);
            Due.tell(x, sort, -1, ONE[sort]);
            unread(x, sort, 2);
            unread(x, sort, 3);
            Due.is("the first is as it was", mark(x, sort, 0), 7);
        }
    }

    @Edge(promise = 4, says = {"there are as many as may be",
        "TOWNS, at most 2 (sort 0), EVENINGS, at most 2 (1), BOOKS, at most 2 (2), LISTS, at most 2 (3), from 0 on."})
    static void textOfAThird() {
        SoupNine x = new SoupNine();
        for (int sort = 3; sort >= 0; sort--) {
            Due.tell(x, sort, -1, ONE[sort]);
            Due.tell(x, sort, -1, ONE[sort]);
            unread(x, sort, -1);
            Due.tape(x, OTHER[sort]);
            Due.is("text of a third", x.text(sort, -1), -2);
            Due.is("the tape is empty", x.end(1), -1);
            Due.is("the second is as it was", mark(x, sort, 1), 7);
        }
    }

    @Edge(promise = 4, says = {"or no such sort", "(no text is read then, FAULT 0)."})
    static void textOfNoSuchSort() {
        SoupNine x = new SoupNine();
        for (int i = 0; i < 2; i++) {
            for (int sort : new int[] {-1, -2, 4, 5, MIN, MAX}) {
                unread(x, sort, -1);
                unread(x, sort, 0);
            }
            for (int sort = 0; sort < 4; sort++) {
                Due.tell(x, sort, -1, ONE[sort]);
            }
        }
    }

    @Edge(promise = 4, says = {"The tape is taken (and is empty then) as a text of a sort", "THE TAPE has at most 600 bytes."})
    static void textOfAFullTape() {
        // 40 DEEDS of 15 bytes each
        String text = "  wait     40; ".repeat(40);
        Due.is("bytes", text.length(), 600);
        SoupNine x = Due.told(1, text);
        Due.is("deeds", x.deed(0, -1, 0), 40);
        Due.is("the last deed's number", x.deed(0, 39, 1), 40);
    }

    @Edge(promise = 4, says = "The tape is taken")
    static void textsUpToTheLastCallThatIsPromised() {
        SoupNine x = new SoupNine();
        for (int i = 0; i < 127; i++) {
            // four calls each: end, feed, end, text
            Due.is("text", Due.tell(x, 2, i < 2 ? -1 : i % 2, "night " + i % 100 + " 0;"), i % 2);
        }
        Due.is("call 509", x.book(0, 0, 0), 26);
        Due.is("call 510", x.book(1, 0, 0), 25);
        Due.is("call 511", x.image(2), true);
        Due.is("call 512", x.again(2), true);
    }

    // ---- promise 39

    @Edge(promise = 39, says = "How many there are of a sort.")
    static void countOfEachSort() {
        SoupNine x = new SoupNine();
        for (int sort = 0; sort < 4; sort++) {
            for (int many = 0; many <= 2; many++) {
                for (int other = 0; other < 4; other++) {
                    Due.is("count(" + other + ")", x.count(other), other < sort ? 2 : other == sort ? many : 0);
                }
                if (many < 2) {
                    Due.tell(x, sort, -1, ONE[sort]);
                }
            }
        }
    }

    @Edge(promise = 39, says = "-2 for another one.")
    static void countOfNoSuchSort() {
        SoupNine x = Due.told(3, "");
        for (int sort : new int[] {-1, -2, 4, 5, MIN, MAX}) {
            Due.is("count(" + sort + ")", x.count(sort), -2);
        }
    }

    // ---- promises 40, 41

    @Edge(promise = 40, says = {"Image k (0 .. 2)", "as it is now: true; false for another k."})
    static void imagesThereMayBe() {
        SoupNine x = new SoupNine();
        for (int k = 0; k < 3; k++) {
            Due.is("image(" + k + ")", x.image(k), true);
        }
        for (int k : new int[] {-1, -2, 3, 4, MIN, MAX}) {
            Due.is("image(" + k + ")", x.image(k), false);
        }
    }

    @Edge(promise = 40, says = "is all that is told (the tape, the FAULT, too), as it is now")
    static void imageHasAllThatIsTold() {
        SoupNine x = new SoupNine();
        for (int sort = 0; sort < 4; sort++) {
            Due.tell(x, sort, -1, ONE[sort]);
            Due.tell(x, sort, -1, OTHER[sort]);
        }
        Due.tell(x, 0, 0, "pace 0;");
        Due.tape(x, "talk;wait 3;");
        x.image(1);
        for (int sort = 0; sort < 4; sort++) {
            Due.tell(x, sort, 0, OTHER[sort]);
            Due.tell(x, sort, 1, "");
        }
        Due.is("fault(0) by now", x.fault(0), 0);
        Due.is("again(1)", x.again(1), true);
        for (int sort = 0; sort < 4; sort++) {
            Due.is("count", x.count(sort), 2);
            Due.is("the first", mark(x, sort, 0), 7);
            Due.is("the second", mark(x, sort, 1), 8);
        }
        Due.is("the FAULT", x.fault(0), 2);
        Due.is("its place", x.fault(1), 5);
        Due.is("the tape", x.end(12), 12);
        Due.is("text", x.text(1, 0), 0);
        Due.is("its bytes", x.deed(0, 1, 1), 3);
    }

    @Edge(promise = 40, says = "(the tape, the FAULT, too)")
    static void imageOfAFullTape() {
        for (int last : new int[] {0, 1, 19, 20, 300, 580, 598, 599}) {
            SoupNine x = new SoupNine();
            Due.tape(x, " ".repeat(last) + "!" + " ".repeat(599 - last));
            x.image(0);
            x.end(0);
            blanks(x, 30);
            x.again(0);
            Due.is("end(600)", x.end(600), 600);
            Due.is("text", x.text(0, -1), -1);
            Due.is("the odd byte's place", x.fault(1), last);
        }
    }

    @Edge(promise = 40, says = "is all that is told (the tape, the FAULT, too), as it is now")
    static void imageOfANewObject() {
        SoupNine x = new SoupNine();
        x.image(0);
        for (int sort = 0; sort < 4; sort++) {
            Due.tell(x, sort, -1, ONE[sort]);
        }
        Due.tell(x, 0, 0, "!");
        Due.tape(x, "talk;");
        Due.is("again(0)", x.again(0), true);
        for (int sort = 0; sort < 4; sort++) {
            Due.is("count", x.count(sort), 0);
        }
        Due.is("fault(0)", x.fault(0), 0);
        Due.is("fault(1)", x.fault(1), -1);
        Due.is("end(1)", x.end(1), -1);
    }

    @Edge(promise = 40, says = "as it is now")
    static void imageInThePlaceOfAnEarlierOne() {
        SoupNine x = Due.told(0, "soup 7;");
        x.image(2);
        Due.tell(x, 0, 0, "soup 8;");
        Due.is("image(2) another time", x.image(2), true);
        Due.tell(x, 0, 0, "soup 9;");
        Due.is("again(2)", x.again(2), true);
        Due.is("SOUP", x.town(0, 2), 8);
    }

    @Edge(promise = 40, says = "false for another k.")
    static void aRefusedImageIsNone() {
        SoupNine x = Due.told(0, "soup 7;");
        x.image(0);
        Due.tell(x, 0, 0, "soup 8;");
        x.image(3);
        x.image(-1);
        x.again(0);
        Due.is("SOUP of image 0", x.town(0, 2), 7);
        Due.is("again(1)", x.again(1), false);
        Due.is("again(2)", x.again(2), false);
    }

    @Edge(promise = 41, says = "All that is as image k has it: true;")
    static void againAsOftenAsOneLikes() {
        SoupNine x = new SoupNine();
        for (int k = 0; k < 3; k++) {
            Due.tell(x, 0, k == 0 ? -1 : 0, "soup " + (k + 5) + ";");
            x.image(k);
        }
        int[] row = {0, 2, 1, 1, 0, 2, 2, 0};
        for (int k : row) {
            Due.is("again(" + k + ")", x.again(k), true);
            Due.is("SOUP", x.town(0, 2), k + 5);
            // what is told from here on is none of the image's
            Due.tell(x, 0, 0, "soup 99;");
            Due.tell(x, 1, -1, "!");
            blanks(x, 1);
        }
        Due.is("again(1)", x.again(1), true);
        Due.is("the tape of image 1", x.end(1), -1);
        Due.is("the FAULT of image 1", x.fault(0), 0);
    }

    @Edge(promise = 41, says = "All that is as image k has it: true;")
    static void nothingWorkedOutIsLeftBehindAgain() {
        SoupNine x = Due.told(0, "even 0 0 0 4;");
        Due.tell(x, 3, -1, "shoe 1;foot 1 1;hide 1 0 1;");
        x.image(0);
        Due.tell(x, 0, 0, "even 0 0 0 8;");
        Due.tell(x, 3, 0, "shoe 1;foot 1 2;hide 2 0 1;");
        Due.is("mean", x.mean(0, 0, 0, false), 4);
        Due.is("way", x.way(0, -1), 4);
        Due.is("shod", x.shod(0, -1), 2);
        Due.is("look", x.look(0, -1), 2);
        x.again(0);
        Due.is("mean", x.mean(0, 0, 0, false), 2);
        Due.is("way", x.way(0, -1), 2);
        Due.is("shod", x.shod(0, -1), 1);
        Due.is("look", x.look(0, -1), 1);
    }

    @Edge(promise = 41, says = "false if there is none such.")
    static void againOfNone() {
        SoupNine x = Due.told(0, "soup 7;");
        Due.tape(x, "talk;");
        x.image(1);
        Due.tell(x, 0, 0, "soup 0;pace 0;");
        for (int k : new int[] {0, 2, -1, -2, 3, 4, MIN, MAX}) {
            Due.is("again(" + k + ")", x.again(k), false);
            Due.is("the FAULT is as it was", x.fault(0), 2);
        }
    }
}
