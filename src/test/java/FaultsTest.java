import java.util.ArrayList;
import java.util.List;
import java.util.Random;
import java.util.regex.Matcher;
import java.util.regex.Pattern;

/** Texts by chance, many of them wrong, their FAULTS found anew line by line. */
public final class FaultsTest {
    private static final String[][] LINES = {
        {"even # # # #", "crowded # # # #", "empty # # # #", "last # # # #", "follow # # #", "home # #", "soup #", "pace #",
            "cold #", "talk #"},
        {"drive #", "ladle #", "wait #", "talk", "return"},
        {"night # #", "asked socks #", "asked gloves #", "asked bags #"},
        {"shoe #", "foot # #", "hide # # #"}};
    private static final String[] ODD = {"x", "talk", "even", "123", "7", ";", "A", "\u00ff", "\t", "socks", "asked", "0"};

    private final Random random;
    // 0: lines of other sorts, too, 1: tokens are left out, 2: odd ones come in, 3: many lines that can be
    private int mood;
    private final List<String> tokens = new ArrayList<>();
    private final List<Integer> places = new ArrayList<>();

    private FaultsTest(long seed) {
        random = new Random(seed);
    }

    public static void main(String[] args) {
        int[] seen = new int[6];
        for (int seed = 0; seed < 40000; seed++) {
            FaultsTest test = new FaultsTest(seed);
            int sort = seed % 4;
            String text = test.make(sort);
            int[] due = test.find(sort, text);
            seen[due[0]]++;
            SoupNine x = new SoupNine();
            Due.is("text of " + text, Due.tell(x, sort, -1, text), due[0] == 0 ? 0 : -1);
            Due.is("fault(0) of " + text, x.fault(0), due[0]);
            Due.is("fault(1) of " + text, x.fault(1), due[1]);
        }
        for (int fault = 0; fault < 6; fault++) {
            Due.is("FAULT " + fault + " was seen often", seen[fault] > 50, true);
        }
        Due.finish("FaultsTest");
    }

    private String make(int sort) {
        StringBuilder text = new StringBuilder();
        mood = random.nextInt(4);
        int many = random.nextInt(mood == 3 || random.nextInt(6) == 0 ? 45 : 8);
        for (int i = 0; i < many && text.length() < 560; i++) {
            int by = random.nextInt(12) == 0 ? random.nextInt(4) : sort;
            String line = LINES[mood == 0 ? by : sort][random.nextInt(LINES[mood == 0 ? by : sort].length)];
            for (String token : (line + " ;").split(" ")) {
                if (mood == 1 && random.nextInt(40) == 0) {
                    continue;
                }
                if (mood == 2 && random.nextInt(60) == 0) {
                    text.append(ODD[random.nextInt(ODD.length)]);
                }
                text.append(blanks(token)).append(token.equals("#") ? number() : token);
            }
        }
        if (random.nextInt(10) == 0) {
            text.append(" \n".substring(0, 1 + random.nextInt(2)));
        }
        text.setLength(Math.min(text.length(), random.nextInt(20) == 0 ? random.nextInt(600) : 600));
        return text.toString();
    }

    private String blanks(String token) {
        return token.equals(";") ? "" : random.nextInt(30) == 0 ? " \n" : token.equals("#") || random.nextInt(4) == 0 ? " " : "";
    }

    private String number() {
        if (mood == 3) {
            return random.nextInt(200) == 0 ? "0" : "1";
        }
        int by = random.nextInt(60);
        int upTo = by == 0 ? 110 : by < 4 ? 45 : by < 9 ? 22 : 9;
        int number = random.nextInt(upTo);
        return random.nextInt(30) == 0 && number < 10 ? "0" + number : Integer.toString(number);
    }

    private int[] find(int sort, String text) {
        Matcher matcher = Pattern.compile("[a-z]+|[0-9]+|[^ \n]").matcher(text);
        while (matcher.find()) {
            tokens.add(matcher.group());
            places.add(matcher.start());
        }
        tokens.add("");
        places.add(text.length());
        int bad = firstThatDoesNotGoOn(sort);
        if (bad >= 0) {
            return new int[] {1, places.get(bad)};
        }
        return firstOther(sort, text);
    }

    // the lines that may still go on as they began
    private int firstThatDoesNotGoOn(int sort) {
        List<String[]> may = new ArrayList<>();
        int at = 0;
        for (int i = 0; i < tokens.size(); i++) {
            if (at == 0) {
                may.clear();
                for (String line : LINES[sort]) {
                    may.add((line + " ;").split(" "));
                }
                if (tokens.get(i).isEmpty()) {
                    return -1;
                }
            }
            final int here = at;
            final String token = tokens.get(i);
            may.removeIf(line -> !(line[here].equals("#") ? token.matches("[0-9][0-9]?") : line[here].equals(token)));
            if (may.isEmpty()) {
                return i;
            }
            at = token.equals(";") ? 0 : at + 1;
        }
        return -1;
    }

    private int[] firstOther(int sort, String text) {
        int[] many = new int[6];
        int told = 0;
        for (int i = 0; i < tokens.size() - 1; i++) {
            String word = tokens.get(i);
            int group = "even crowded empty last".contains(word) ? 0 : sort == 1 ? 1 : word.equals("night") ? 2
                    : word.equals("shoe") ? 3 : word.equals("foot") ? 4 : word.equals("hide") ? 5 : -1;
            int[] most = {9, 40, 10, 6, 8, 8};
            if (group >= 0 && ++many[group] > most[group]) {
                return new int[] {3, places.get(i)};
            }
            if (word.equals("asked") && many[2] == 0) {
                return new int[] {4, places.get(i)};
            }
            int end = tokens.subList(i, tokens.size()).indexOf(";") + i;
            List<Integer> numbers = new ArrayList<>();
            for (int k = i + 1; k < end; k++) {
                if (Character.isDigit(tokens.get(k).charAt(0))) {
                    numbers.add(Integer.parseInt(tokens.get(k)));
                    if (!canBe(sort, word, numbers)) {
                        return new int[] {2, places.get(k)};
                    }
                }
            }
            if (word.equals("follow")) {
                told = Math.max(told, Math.max(numbers.get(0), numbers.get(1)) + 1);
            }
            i = end;
        }
        return told > many[0] ? new int[] {5, text.length()} : new int[] {0, -1};
    }

    private static boolean canBe(int sort, String word, List<Integer> numbers) {
        int n = numbers.size();
        int v = numbers.get(n - 1);
        switch (word) {
            case "even": case "crowded": case "empty": case "last":
                return n <= 2 ? v <= 9 : n == 3 ? v <= 20 : v >= numbers.get(2) && v <= 20;
            case "follow":
                return n == 1 ? v <= 8 : n == 2 ? v <= 8 && v != numbers.get(0) : v <= 9;
            case "home":
                return v <= 9;
            case "pace":
                return v >= 1 && v <= 9;
            case "talk":
                return v >= 1 && v <= 30;
            case "drive":
                return v <= 8;
            case "ladle":
                return v >= 1 && v <= 40;
            case "wait":
                return v >= 1 && v <= 60;
            case "night":
                return n == 1 || v <= numbers.get(0);
            case "shoe":
                return v >= 1 && v <= 20;
            case "foot":
                return n == 1 ? v >= 1 && v <= 20 : v <= 9;
            case "hide":
                return n <= 2 ? v <= 9 : v <= 20;
            default:
                return true;
        }
    }
}
