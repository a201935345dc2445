/** Lists: promises 21 to 23, Terms 4. */
final class ListEdges {
    private static final int MIN = Integer.MIN_VALUE;
    private static final int MAX = Integer.MAX_VALUE;
    private static final int[] NO_PLACES = {-1, -2, 1, 2, MIN, MAX};

    private ListEdges() {
    }

    private static void shod(String text, int need, int... row) {
        SoupNine x = Due.told(3, text);
        Due.is("shod(0, -1) of " + text, x.shod(0, -1), need);
        for (int k = 0; k < 9; k++) {
            Due.is("shod(0, " + k + ") of " + text, x.shod(0, k), k < row.length ? row[k] : -1);
        }
    }

    private static void look(String text, int n, int d, int... row) {
        SoupNine x = Due.told(3, text);
        Due.is("look(0, -1) of " + text, x.look(0, -1), n);
        Due.is("look(0, -2) of " + text, x.look(0, -2), d);
        for (int k = 0; k < 9; k++) {
            Due.is("look(0, " + k + ") of " + text, x.look(0, k), k < row.length ? row[k] : -1);
        }
    }

    // ---- promise 21

    @Edge(promise = 21, says = {"Of a LIST, what 0: SHOES, 1: FEET, 2: HIDES, 10 + k: size of a SHOE, 20 + k, 30 + k: size, NEED"
            + " of a FOOT",
        "40 + k, 50 + k, 60 + k: x, y, ODDS of a HIDE.", "A LIST has SHOES, at most 6, from 0 on:", "FEET, at most 8, from 0 on:",
        "HIDES, at most 8, from 0 on:"})
    static void listAtLeastAtMost() {
        SoupNine x = Due.told(3, "");
        for (int what = 0; what < 3; what++) {
            Due.is("list(0, " + what + ") of an empty one", x.list(0, what), 0);
        }
        StringBuilder text = new StringBuilder();
        int[][] due = {{1, 20, 3, 4, 5, 6}, {1, 20, 3, 4, 5, 6, 7, 8}, {0, 9, 2, 3, 4, 5, 6, 7}, {0, 9, 7, 6, 5, 4, 3, 2},
            {9, 0, 1, 2, 3, 4, 5, 6}, {0, 20, 10, 11, 12, 13, 14, 15}};
        for (int k = 0; k < 8; k++) {
            text.append(k < 6 ? "shoe " + due[0][k] + ";" : "").append("foot ").append(due[1][k]).append(' ').append(due[2][k]);
            text.append(";hide ").append(due[3][k]).append(' ').append(due[4][k]).append(' ').append(due[5][k]).append(';');
        }
        Due.tell(x, 3, 0, text.toString());
        int[] many = {6, 8, 8};
        for (int what = 0; what < 3; what++) {
            Due.is("list(0, " + what + ")", x.list(0, what), many[what]);
        }
        for (int tens = 1; tens < 7; tens++) {
            for (int k = 0; k < 10; k++) {
                Due.is("list(0, " + (10 * tens + k) + ")", x.list(0, 10 * tens + k), k < due[tens - 1].length ? due[tens - 1][k] : -1);
            }
        }
    }

    @Edge(promise = 21, says = "NONE: there is none such (of any)")
    static void listOfNone() {
        SoupNine x = new SoupNine();
        Due.is("list(0, 0)", x.list(0, 0), -1);
        Due.tell(x, 3, -1, "");
        for (int tens = 1; tens < 7; tens++) {
            Due.is("list(0, " + 10 * tens + ") of an empty one", x.list(0, 10 * tens), -1);
        }
        Due.tell(x, 3, 0, "shoe 1;shoe 1;shoe 1;foot 1 1;foot 1 1;hide 1 1 1;");
        int[] there = {3, 2, 2, 1, 1, 1};
        for (int tens = 1; tens < 7; tens++) {
            for (int k = 0; k < 10; k++) {
                Due.is("list(0, " + (10 * tens + k) + ")", x.list(0, 10 * tens + k), k < there[tens - 1] ? 1 : -1);
            }
        }
        for (int list : NO_PLACES) {
            Due.is("list(" + list + ", 0)", x.list(list, 0), -1);
            Due.is("list(" + list + ", 10)", x.list(list, 10), -1);
        }
    }

    @Edge(promise = 21, says = "or for another what.")
    static void listOfAnotherWhat() {
        SoupNine x = Due.told(3, "shoe 1;".repeat(6) + "foot 1 1;".repeat(8) + "hide 1 1 1;".repeat(8));
        for (int what : new int[] {-1, -2, -10, 3, 4, 9, 70, 71, 77, 80, 100, MIN, MAX}) {
            Due.is("list(0, " + what + ")", x.list(0, what), -1);
        }
    }

    // ---- promise 22

    @Edge(promise = 22, says = {"SHOD: the NEED (k NONE), or the SHOE of a FOOT.", "By a LIST: a SHOE fits a FOOT of its size,"
            + " or of a size 1 less."})
    static void aShoeFits() {
        for (int shoe : new int[] {1, 2, 10, 19, 20}) {
            for (int foot = 1; foot <= 20; foot++) {
                boolean fits = foot == shoe || foot == shoe - 1;
                shod("shoe " + shoe + ";foot " + foot + " 7;", fits ? 7 : 0, fits ? 0 : 6);
            }
        }
    }

    @Edge(promise = 22, says = {"SHOD: the most NEED together of FEET that have a SHOE each that fits, each SHOE but once;"})
    static void shodAtLeastAtMost() {
        shod("", 0);
        shod("shoe 1;", 0);
        shod("foot 1 9;", 0, 6);
        shod("shoe 5;".repeat(6) + "foot 5 9;".repeat(8), 54, 0, 1, 2, 3, 4, 5, 6, 6);
        shod("shoe 5;foot 5 3;foot 5 4;", 4, 6, 0);
        // the one that fits two goes where no other fits
        shod("shoe 9;shoe 8;foot 8 1;foot 9 1;", 2, 1, 0);
        shod("shoe 9;shoe 9;foot 9 1;foot 8 2;foot 9 3;", 5, 6, 0, 1);
    }

    @Edge(promise = 22, says = "the row of SHOES by FEET (6: none), the first by numbers.")
    static void shodTheFirstByNumbers() {
        shod("shoe 5;shoe 5;foot 5 3;", 3, 0);
        shod("shoe 5;foot 5 3;foot 5 3;", 3, 0, 6);
        shod("shoe 5;foot 5 0;", 0, 0);
        shod("shoe 5;foot 5 0;foot 5 1;", 1, 6, 0);
        shod("shoe 5;shoe 6;foot 5 1;foot 5 1;", 2, 0, 1);
        shod("foot 5 0;foot 5 0;shoe 4;shoe 6;shoe 5;", 0, 1, 2);
        shod("shoe 6;shoe 5;foot 4 0;foot 5 2;", 2, 1, 0);
    }

    @Edge(promise = 4, says = "in the place of one")
    static void shodAndLookOfAListInThePlaceOfOne() {
        SoupNine x = Due.told(3, "shoe 5;".repeat(6) + "foot 5 9;".repeat(8) + "hide 9 9 20;".repeat(8));
        Due.is("shod(0, -1)", x.shod(0, -1), 54);
        Due.is("look(0, -1)", x.look(0, -1), 18);
        for (int many = 7; many >= 0; many--) {
            Due.tell(x, 3, 0, "shoe 5;" + "foot 5 1;".repeat(many) + "hide 1 0 1;".repeat(many));
            Due.is("shod(0, -1) of " + many + " FEET", x.shod(0, -1), Math.min(1, many));
            Due.is("shod(0, 0) of " + many + " FEET", x.shod(0, 0), many == 0 ? -1 : 0);
            Due.is("look(0, -1) of " + many + " HIDES", x.look(0, -1), many == 0 ? -1 : 1);
            Due.is("look(0, 0) of " + many + " HIDES", x.look(0, 0), many == 0 ? -1 : 0);
        }
    }

    @Edge(promise = 22, says = "NONE: there is none such (of either).")
    static void shodOfNone() {
        SoupNine x = new SoupNine();
        Due.is("shod(0, -1)", x.shod(0, -1), -1);
        Due.tell(x, 3, -1, "shoe 1;shoe 1;shoe 1;foot 1 1;foot 1 1;");
        Due.is("shod(0, 1)", x.shod(0, 1), 1);
        for (int k : new int[] {-2, -3, 2, 3, 8, MIN, MAX}) {
            Due.is("shod(0, " + k + ")", x.shod(0, k), -1);
        }
        for (int list : NO_PLACES) {
            Due.is("shod(" + list + ", -1)", x.shod(list, -1), -1);
            Due.is("shod(" + list + ", 0)", x.shod(list, 0), -1);
        }
    }

    // ---- promise 23

    @Edge(promise = 23, says = {"LOOK: the k-th HIDE of the row; k NONE: N, k -2: D of the mean.",
        "LOOK: one walks from 0, 0 to HIDES one behind the other, a minute a step by columns and rows; he is at one of them, by"
            + " ODDS: the row by which the mean of minutes until he is found is least",
        "; that mean, a fraction in least terms."})
    static void lookAtLeastAtMost() {
        look("hide 0 0 1;", 0, 1, 0);
        look("hide 9 9 20;", 18, 1, 0);
        look("hide 9 9 20;".repeat(8), 18, 1, 0, 1, 2, 3, 4, 5, 6, 7);
        // 2 minutes by 5, 7 by 1, of 6
        look("hide 2 0 5;hide 0 3 1;hide 5 5 0;", 17, 6, 0, 1, 2);
        // 1 by 1, 9 by 9, of 10
        look("hide 1 0 1;hide 9 0 9;", 41, 5, 0, 1);
        // one step one way, two steps the other: by 1 and 4, or 2 and 5
        look("hide 1 0 1;hide 0 2 1;", 5, 2, 0, 1);
        look("hide 1 0 1;hide 0 2 3;", 11, 4, 1, 0);
        // where one is by then counts: 9 by 20, 10 by 1, 19 by 1
        look("hide 9 0 20;hide 0 1 1;hide 9 1 1;", 19, 2, 0, 2, 1);
        look("hide 0 9 1;hide 9 0 1;", 18, 1, 0, 1);
        look("hide 0 9 1;hide 9 0 2;", 15, 1, 1, 0);
    }

    @Edge(promise = 23, says = {", the first by numbers;"})
    static void lookTheFirstByNumbers() {
        look("hide 1 1 3;hide 1 1 3;hide 1 1 3;", 2, 1, 0, 1, 2);
        look("hide 3 0 1;hide 0 3 1;", 6, 1, 0, 1);
        // those without ODDS come as soon as they take no minutes from him, else at the end
        look("hide 0 0 0;hide 0 0 3;hide 1 0 0;", 0, 1, 0, 1, 2);
        look("hide 1 0 0;hide 0 0 3;hide 0 0 0;", 0, 1, 1, 0, 2);
        look("hide 1 0 0;hide 2 0 1;", 2, 1, 0, 1);
        look("hide 0 1 0;hide 2 0 1;", 2, 1, 1, 0);
    }

    @Edge(promise = 23, says = "NONE: all ODDS are 0")
    static void lookWithoutOdds() {
        look("", -1, -1);
        look("shoe 1;foot 1 1;", -1, -1);
        look("hide 0 0 0;", -1, -1);
        look("hide 1 1 0;".repeat(8), -1, -1);
    }

    @Edge(promise = 23, says = ", or there is none such (of either).")
    static void lookOfNone() {
        SoupNine x = new SoupNine();
        Due.is("look(0, -1)", x.look(0, -1), -1);
        Due.is("look(0, -2)", x.look(0, -2), -1);
        Due.tell(x, 3, -1, "hide 1 0 1;hide 2 0 1;foot 1 1;foot 1 1;foot 1 1;");
        Due.is("look(0, 1)", x.look(0, 1), 1);
        for (int k : new int[] {-3, -4, 2, 3, 8, MIN, MAX}) {
            Due.is("look(0, " + k + ")", x.look(0, k), -1);
        }
        for (int list : NO_PLACES) {
            for (int k = -2; k < 2; k++) {
                Due.is("look(" + list + ", " + k + ")", x.look(list, k), -1);
            }
        }
    }
}
