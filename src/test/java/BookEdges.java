/** Books: promises 17 to 20, 35 and 36, Terms 4 and 6. */
final class BookEdges {
    private static final int MIN = Integer.MIN_VALUE;
    private static final int MAX = Integer.MAX_VALUE;
    private static final int[] NO_PLACES = {-1, -2, 1, 2, MIN, MAX};
    private static final int[] NO_THINGS = {-1, -2, 3, 4, MIN, MAX};

    private BookEdges() {
    }

    private static void held(String text, int... due) {
        SoupNine x = Due.told(2, text);
        for (int what = 0; what < due.length; what++) {
            Due.is("held(0, " + what + ") of " + text, x.held(0, what), due[what]);
        }
    }

    // what 3, 4, 5 alone
    private static void doorway(String text, int night, int n, int d) {
        SoupNine x = Due.told(2, text);
        Due.is("held(0, 3) of " + text, x.held(0, 3), night);
        Due.is("held(0, 4) of " + text, x.held(0, 4), n);
        Due.is("held(0, 5) of " + text, x.held(0, 5), d);
    }

    // ---- promise 17

    @Edge(promise = 17, says = {"Of a BOOK, how many NIGHTS (k NONE, what 0); of NIGHT k, what 0: SEEN, 1: AGAIN, 2, 3, 4: ASKED"
            + " of a THING.",
        "A BOOK has NIGHTS, at most 10, from 0 on:", "ASKED of three THINGS, 0 .. 99 each (0 at first): 0 SOCKS, 1 GLOVES, 2"
            + " BAGS."})
    static void bookAtFirstAtLeastAtMost() {
        SoupNine x = Due.told(2, "");
        Due.is("NIGHTS", x.book(0, -1, 0), 0);
        Due.tell(x, 2, 0, "night 0 0;night 99 99;asked socks 99;asked gloves 98;asked bags 97;night 1 0;asked bags 0;"
                + "night 5 4;".repeat(6) + "night 3 2;asked gloves 1;");
        Due.is("NIGHTS", x.book(0, -1, 0), 10);
        int[][] due = {{0, 0, 0, 0, 0}, {99, 99, 99, 98, 97}, {1, 0, 0, 0, 0}};
        for (int k = 0; k < 10; k++) {
            int[] night = k < 3 ? due[k] : k < 9 ? new int[] {5, 4, 0, 0, 0} : new int[] {3, 2, 0, 1, 0};
            for (int what = 0; what < 5; what++) {
                Due.is("book(0, " + k + ", " + what + ")", x.book(0, k, what), night[what]);
            }
        }
    }

    @Edge(promise = 17, says = "NONE: there is none such (of either)")
    static void bookOfNone() {
        SoupNine x = new SoupNine();
        Due.is("book(0, -1, 0) of a new object", x.book(0, -1, 0), -1);
        Due.tell(x, 2, -1, "");
        Due.is("book(0, 0, 0) without NIGHTS", x.book(0, 0, 0), -1);
        Due.tell(x, 2, 0, "night 5 4;".repeat(10));
        for (int book : NO_PLACES) {
            Due.is("book(" + book + ", -1, 0)", x.book(book, -1, 0), -1);
            Due.is("book(" + book + ", 0, 0)", x.book(book, 0, 0), -1);
        }
        for (int k : new int[] {-2, -3, 10, 11, MIN, MAX}) {
            for (int what = 0; what < 5; what++) {
                Due.is("book(0, " + k + ", " + what + ")", x.book(0, k, what), -1);
            }
        }
    }

    @Edge(promise = 17, says = "or for another what.")
    static void bookOfAnotherWhat() {
        SoupNine x = Due.told(2, "night 5 4;");
        for (int what : new int[] {-1, -2, 5, 6, MIN, MAX}) {
            Due.is("book(0, 0, " + what + ")", x.book(0, 0, what), -1);
            Due.is("book(0, -1, " + what + ")", x.book(0, -1, what), -1);
        }
        for (int what = 1; what < 5; what++) {
            Due.is("book(0, -1, " + what + ")", x.book(0, -1, what), -1);
        }
    }

    // ---- promise 18

    @Edge(promise = 18, says = {"What 0: ALL", "By a BOOK: ALL: how many unlike ones were seen at least (SEEN less AGAIN of all"
            + " NIGHTS);"})
    static void allAtLeastAtMost() {
        held("", 0);
        held("night 0 0;", 0);
        held("night 99 99;".repeat(10), 0);
        held("night 99 0;".repeat(10), 990);
        held("night 10 4;night 7 7;night 3 1;", 8);
    }

    @Edge(promise = 18, says = {"1, 2: HELD, N, D",
        "HELD: how many there are, by sums over NIGHTS, from the second one on: SEEN times all unlike ones seen ahead of it, by"
            + " all AGAIN, a fraction in least terms"})
    static void heldBySums() {
        // 12 times 10 and 20 times 18, by 4 and 10
        held("night 10 0;night 12 4;night 20 10;", 28, 240, 7);
        // 6 times 1 and 5 times 5, by 2
        held("night 4 3;night 6 2;night 5 0;", 10, 31, 2);
        held("night 10 0;night 10 10;", 10, 10, 1);
        held("night 5 5;night 8 1;", 7, 0, 1);
        held("night 99 0;" + "night 99 1;".repeat(9), 981, 99 * (9 * 99 + 98 * 36) / 9, 1);
    }

    @Edge(promise = 18, says = "(NONE: no AGAIN).")
    static void heldWithoutAgain() {
        held("", 0, -1, -1);
        held("night 5 0;", 5, -1, -1);
        held("night 5 0;night 6 0;", 11, -1, -1);
        held("night 0 0;".repeat(10), 0, -1, -1);
        // sums are from the second NIGHT on
        held("night 5 5;night 8 0;", 8, -1, -1);
        held("night 5 5;", 0, -1, -1);
    }

    @Edge(promise = 18, says = {"3: DOORWAY, 4, 5: its difference, N, D",
        "DOORWAY: the NIGHT, from 1 on, such that the difference of the means of SEEN, from it on and ahead of it, is greatest"
            + " (from it on more)",
        "that difference, a fraction in least terms."})
    static void doorwayAtLeastAtMost() {
        doorway("night 0 0;night 1 0;", 1, 1, 1);
        doorway("night 0 0;night 99 0;", 1, 99, 1);
        doorway("night 0 0;".repeat(9) + "night 99 0;", 9, 99, 1);
        doorway("night 0 0;" + "night 99 0;".repeat(9), 1, 99, 1);
        doorway("night 1 0;night 2 0;night 2 0;night 5 0;", 3, 10, 3);
        // a single one more at the end, less than any mean that is whole
        doorway("night 5 0;".repeat(9) + "night 6 0;", 9, 1, 1);
        doorway("night 5 0;night 6 0;" + "night 5 0;".repeat(8), 1, 1, 9);
    }

    @Edge(promise = 18, says = ", of several the first;")
    static void doorwayTheFirstOfSeveral() {
        doorway("night 1 0;night 4 0;night 1 0;night 4 0;", 1, 2, 1);
        doorway("night 0 0;night 2 0;night 1 0;night 3 0;", 1, 2, 1);
    }

    @Edge(promise = 18, says = "(3, 4, 5: NONE: of no NIGHT are more from it on).")
    static void noDoorway() {
        doorway("", -1, -1, -1);
        doorway("night 9 0;", -1, -1, -1);
        doorway("night 9 0;night 9 0;", -1, -1, -1);
        doorway("night 9 0;night 8 0;", -1, -1, -1);
        doorway("night 7 0;".repeat(10), -1, -1, -1);
        doorway("night 99 0;night 0 0;night 99 0;night 0 0;", -1, -1, -1);
    }

    @Edge(promise = 18, says = "-2: there is none such")
    static void heldOfNone() {
        SoupNine x = new SoupNine();
        for (int what = 0; what < 6; what++) {
            Due.is("held(0, " + what + ")", x.held(0, what), -2);
        }
        Due.tell(x, 2, -1, "night 1 0;night 9 1;");
        for (int book : NO_PLACES) {
            for (int what = 0; what < 6; what++) {
                Due.is("held(" + book + ", " + what + ")", x.held(book, what), -2);
            }
        }
    }

    @Edge(promise = 18, says = ", or for another what.")
    static void heldOfAnotherWhat() {
        SoupNine x = Due.told(2, "night 1 0;night 9 1;");
        for (int what : new int[] {-1, -2, 6, 7, MIN, MAX}) {
            Due.is("held(0, " + what + ")", x.held(0, what), -2);
        }
    }

    // ---- promise 19

    @Edge(promise = 19, says = {"BRING of a THING, k, 1 .. NIGHTS.",
        "BRING of a THING, k: the fewest to bring that would have been enough on k NIGHTS at least."})
    static void bringAtLeastAtMost() {
        SoupNine x = Due.told(2, "night 1 0;asked socks 99;asked gloves 4;night 1 0;asked gloves 4;night 1 0;asked socks 7;night 1 0;");
        int[][] due = {{0, 0, 7, 99}, {0, 0, 4, 4}, {0, 0, 0, 0}};
        for (int thing = 0; thing < 3; thing++) {
            for (int k = 1; k <= 4; k++) {
                Due.is("bring(0, " + thing + ", " + k + ")", x.bring(0, thing, k), due[thing][k - 1]);
            }
        }
        Due.tell(x, 2, 0, "night 0 0;asked bags 99;".repeat(10));
        Due.is("bring(0, 2, 1)", x.bring(0, 2, 1), 99);
        Due.is("bring(0, 2, 10)", x.bring(0, 2, 10), 99);
        Due.is("bring(0, 2, 11)", x.bring(0, 2, 11), -1);
    }

    @Edge(promise = 19, says = "NONE: there is none such (of any).")
    static void bringOfNone() {
        SoupNine x = new SoupNine();
        Due.is("bring(0, 0, 1)", x.bring(0, 0, 1), -1);
        Due.tell(x, 2, -1, "");
        Due.is("bring(0, 0, 0) without NIGHTS", x.bring(0, 0, 0), -1);
        Due.is("bring(0, 0, 1) without NIGHTS", x.bring(0, 0, 1), -1);
        Due.tell(x, 2, 0, "night 1 0;night 1 0;");
        for (int k : new int[] {0, -1, -2, 3, 4, MIN, MAX}) {
            Due.is("bring(0, 0, " + k + ")", x.bring(0, 0, k), -1);
        }
        for (int thing : NO_THINGS) {
            Due.is("bring(0, " + thing + ", 1)", x.bring(0, thing, 1), -1);
        }
        for (int book : NO_PLACES) {
            Due.is("bring(" + book + ", 0, 1)", x.bring(book, 0, 1), -1);
        }
    }

    // ---- promise 20

    @Edge(promise = 20, says = {"SPAN of a THING: the least, or (greatest) the greatest.", "SPAN of a THING: the least, the"
            + " greatest ASKED."})
    static void spanAtLeastAtMost() {
        SoupNine x = Due.told(2, "night 1 0;asked socks 99;asked gloves 4;asked bags 3;night 1 0;asked socks 98;asked gloves 99;");
        int[][] due = {{98, 99}, {4, 99}, {0, 3}};
        for (int thing = 0; thing < 3; thing++) {
            Due.is("span(0, " + thing + ", false)", x.span(0, thing, false), due[thing][0]);
            Due.is("span(0, " + thing + ", true)", x.span(0, thing, true), due[thing][1]);
        }
        Due.tell(x, 2, 0, "night 0 0;");
        Due.is("span of one NIGHT", x.span(0, 0, false), 0);
        Due.is("span of one NIGHT", x.span(0, 0, true), 0);
        Due.tell(x, 2, 0, "night 0 0;asked bags 50;".repeat(8) + "night 0 0;asked bags 49;night 0 0;asked bags 51;");
        Due.is("span of ten NIGHTS", x.span(0, 2, false), 49);
        Due.is("span of ten NIGHTS", x.span(0, 2, true), 51);
    }

    @Edge(promise = 20, says = "NONE: no NIGHTS")
    static void spanOfNoNights() {
        SoupNine x = Due.told(2, "");
        for (int thing = 0; thing < 3; thing++) {
            Due.is("span(0, " + thing + ", false)", x.span(0, thing, false), -1);
            Due.is("span(0, " + thing + ", true)", x.span(0, thing, true), -1);
        }
    }

    @Edge(promise = 20, says = ", or there is none such (of either).")
    static void spanOfNone() {
        SoupNine x = new SoupNine();
        Due.is("span(0, 0, false)", x.span(0, 0, false), -1);
        Due.tell(x, 2, -1, "night 1 0;");
        for (int thing : NO_THINGS) {
            Due.is("span(0, " + thing + ", false)", x.span(0, thing, false), -1);
            Due.is("span(0, " + thing + ", true)", x.span(0, thing, true), -1);
        }
        for (int book : NO_PLACES) {
            Due.is("span(" + book + ", 0, false)", x.span(book, 0, false), -1);
            Due.is("span(" + book + ", 0, true)", x.span(book, 0, true), -1);
        }
    }

    // ---- promise 35

    private static void lot(String one, String other, long n, long d) {
        SoupNine x = Due.told(2, one);
        Due.is("text", Due.tell(x, 2, -1, other), 1);
        Due.is("lot(0, 1, false) of " + one + " " + other, x.lot(0, 1, false), n);
        Due.is("lot(0, 1, true) of " + one + " " + other, x.lot(0, 1, true), d);
    }

    @Edge(promise = 35, says = {"LOT, N, or (under) D.",
        "LOT of two BOOKS: all NIGHTS of both being in one row, as many as the first BOOK has being picked, all ways alike",
        ": how likely those that are picked have as many SEEN together as the first BOOK has, or more, a fraction in least"
            + " terms."})
    static void lotAtLeastAtMost() {
        lot("", "", 1, 1);
        lot("", "night 9 0;", 1, 1);
        lot("night 9 0;", "", 1, 1);
        lot("night 0 0;", "night 9 0;", 1, 1);
        lot("night 9 0;", "night 0 0;", 1, 2);
        lot("night 9 0;", "night 9 0;", 1, 1);
        lot("night 9 0;", "night 8 0;night 8 0;", 1, 3);
        // of 10, 12, 20, 12, 7 three, 42 together or more
        lot("night 10 0;night 12 0;night 20 0;", "night 12 0;night 7 0;", 3, 10);
        // of 12, 7, 10, 12, 20 two, 19 together or more: all but 7, 10
        lot("night 12 0;night 7 0;", "night 10 0;night 12 0;night 20 0;", 9, 10);
        lot("night 99 0;".repeat(10), "night 98 0;".repeat(10), 1, 184756);
        lot("night 98 0;".repeat(10), "night 99 0;".repeat(10), 1, 1);
        lot("night 99 0;".repeat(10), "night 99 0;".repeat(10), 1, 1);
        lot("night 99 0;".repeat(10), "night 0 0;", 1, 11);
        lot("night 99 0;", "night 0 0;".repeat(10), 1, 11);
    }

    @Edge(promise = 35, says = "LOT of two BOOKS: all NIGHTS of both being in one row")
    static void lotOfABookWithItself() {
        SoupNine x = Due.told(2, "night 3 0;night 1 0;");
        // of 3, 1, 3, 1 two, 4 together or more: all but 1, 1
        Due.is("lot(0, 0, false)", x.lot(0, 0, false), 5);
        Due.is("lot(0, 0, true)", x.lot(0, 0, true), 6);
    }

    @Edge(promise = 35, says = "NONE: there is none such (of either).")
    static void lotOfNone() {
        SoupNine x = new SoupNine();
        Due.is("lot(0, 0, false)", x.lot(0, 0, false), -1);
        Due.tell(x, 2, -1, "night 1 0;");
        for (int book : NO_PLACES) {
            Due.is("lot(" + book + ", 0, false)", x.lot(book, 0, false), -1);
            Due.is("lot(0, " + book + ", false)", x.lot(0, book, false), -1);
            Due.is("lot(" + book + ", 0, true)", x.lot(book, 0, true), -1);
            Due.is("lot(0, " + book + ", true)", x.lot(0, book, true), -1);
        }
    }

    // ---- promise 36

    @Edge(promise = 36, says = {"LIKE.", "LIKE of a THING, two BOOKS: how many couples of NIGHTS, one of each, have as many"
            + " ASKED."})
    static void likeAtLeastAtMost() {
        SoupNine x = Due.told(2, "");
        Due.tell(x, 2, -1, "night 1 0;asked socks 1;night 1 0;asked socks 2;asked bags 99;");
        Due.is("like(0, 1, 0) without NIGHTS", x.like(0, 1, 0), 0);
        Due.is("like(1, 0, 0) without NIGHTS", x.like(1, 0, 0), 0);
        Due.tell(x, 2, 0, "night 1 0;asked socks 2;night 1 0;asked socks 2;asked gloves 1;night 1 0;asked bags 99;");
        int[] due = {2, 4, 3};
        for (int thing = 0; thing < 3; thing++) {
            Due.is("like(0, 1, " + thing + ")", x.like(0, 1, thing), due[thing]);
            Due.is("like(1, 0, " + thing + ")", x.like(1, 0, thing), due[thing]);
        }
        Due.is("like(1, 1, 0) of a BOOK with itself", x.like(1, 1, 0), 2);
        Due.tell(x, 2, 0, "night 0 0;".repeat(10));
        Due.tell(x, 2, 1, "night 9 0;".repeat(10));
        Due.is("like of ten NIGHTS each", x.like(0, 1, 2), 100);
    }

    @Edge(promise = 36, says = "NONE: there is none such (of any).")
    static void likeOfNone() {
        SoupNine x = new SoupNine();
        Due.is("like(0, 0, 0)", x.like(0, 0, 0), -1);
        Due.tell(x, 2, -1, "night 1 0;");
        for (int book : NO_PLACES) {
            Due.is("like(" + book + ", 0, 0)", x.like(book, 0, 0), -1);
            Due.is("like(0, " + book + ", 0)", x.like(0, book, 0), -1);
        }
        for (int thing : NO_THINGS) {
            Due.is("like(0, 0, " + thing + ")", x.like(0, 0, thing), -1);
        }
    }
}
