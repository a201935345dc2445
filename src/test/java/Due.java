/** What tests share: telling texts by the tape, and counting answers that are not as due. */
final class Due {
    private static int wrong = 0;
    private static int asked = 0;
    private static String test = "";

    private Due() {
    }

    /** What is said ahead of each answer that is not as due. */
    static void begin(String name) {
        test = name;
    }

    static void is(String call, long got, long want) {
        asked++;
        if (got != want) {
            wrong++;
            if (wrong <= 50) {
                System.out.println(test + call + " answered " + got + ", due is " + want);
            }
        }
    }

    static void is(String call, boolean got, boolean want) {
        is(call, got ? 1 : 0, want ? 1 : 0);
    }

    /** Puts a text on the empty tape. */
    static void tape(SoupNine x, String text) {
        x.end(0);
        int[] five = new int[5];
        for (int at = 0; at < text.length(); at += 20) {
            for (int i = 0; i < 20; i++) {
                int sign = at + i < text.length() ? text.charAt(at + i) & 255 : 32;
                five[i / 4] = five[i / 4] << 8 | sign;
            }
            x.feed(five[0], five[1], five[2], five[3], five[4]);
        }
        x.end(text.length());
    }

    static int tell(SoupNine x, int sort, int at, String text) {
        tape(x, text);
        return x.text(sort, at);
    }

    /** A new object to which one text, without FAULT, was told. */
    static SoupNine told(int sort, String text) {
        SoupNine x = new SoupNine();
        is("text(" + sort + ", -1) of " + text, tell(x, sort, -1, text), 0);
        return x;
    }

    static void finish(String name) {
        System.out.println(name + ": " + asked + " answers, " + wrong + " not as due");
        if (wrong != 0) {
            System.exit(1);
        }
    }
}
