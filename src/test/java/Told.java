import java.nio.charset.StandardCharsets;
import java.util.NoSuchElementException;

/** What the tests share: telling a text, and counting answers that are not the ones due. */
final class Told {
    private static int checks = 0;
    private static int wrong = 0;
    private static String test = "";

    private Told() {
    }

    /** What stands ahead of all that is printed from now on. */
    static void inTest(String name) {
        test = name;
    }

    static void due(String call, long got, long want) {
        checks++;
        if (got != want) {
            wrong++;
            System.out.println(test + call + " answered " + got + ", due is " + want);
        }
    }

    static void due(String call, boolean got, boolean want) {
        due(call, got ? 1 : 0, want ? 1 : 0);
    }

    /** Two texts of lines; the first lines that are unlike are told. */
    static void same(String what, String got, String want) {
        String[] gotLines = got.split("\n");
        String[] wantLines = want.split("\n");
        int k = 0;
        while (k < gotLines.length && k < wantLines.length && gotLines[k].equals(wantLines[k])) {
            k++;
        }
        boolean alike = k == gotLines.length && k == wantLines.length;
        String unlike = alike ? "" : ": " + lineOf(gotLines, k) + " in place of " + lineOf(wantLines, k);
        due(what + unlike, alike, true);
    }

    private static String lineOf(String[] lines, int k) {
        return k < lines.length ? lines[k] : "nothing";
    }

    static void end() {
        System.out.println(wrong == 0 ? checks + " answers are as due" : wrong + " answers of " + checks + " are not as due");
        if (wrong != 0) {
            System.exit(1);
        }
    }

    /** Feeds the bytes, and blanks behind them up to a whole number of twenties. */
    static void feed(ThiefTakers x, String text) {
        byte[] bytes = text.getBytes(StandardCharsets.ISO_8859_1);
        for (int i = 0; i < bytes.length; i += 20) {
            int[] five = new int[5];
            for (int k = 0; k < 20; k++) {
                five[k / 4] = five[k / 4] << 8 | (i + k < bytes.length ? bytes[i + k] & 255 : 32);
            }
            x.feed(five[0], five[1], five[2], five[3], five[4]);
        }
    }

    static int tell(ThiefTakers x, String text) {
        feed(x, text);
        return x.text(text.length());
    }

    static ThiefTakers of(String text) {
        ThiefTakers x = new ThiefTakers();
        if (tell(x, text) < 0) {
            due("text " + text + " (fault " + x.fault(0) + " at " + x.fault(1) + ")", -1, 0);
        }
        return x;
    }

    /** The place of the fault is where ^ stands in the text. */
    static void fault(int number, String marked) {
        fault(number, marked.indexOf('^'), marked.replace("^", ""));
    }

    static void fault(int number, int place, String text) {
        ThiefTakers x = new ThiefTakers();
        due("text(" + text + ")", tell(x, text), -1);
        due("fault(0) of " + text, x.fault(0), number);
        due("fault(1) of " + text, x.fault(1), place);
    }

    static void fine(int lines, String text) {
        ThiefTakers x = new ThiefTakers();
        due("text(" + text + ")", tell(x, text), lines);
        due("fault(0) of " + text, x.fault(0), 0);
        due("fault(1) of " + text, x.fault(1), -1);
    }

    /** 1: IndexOutOfBoundsException, 2: NoSuchElementException, 0: nothing is thrown. */
    static int thrownByCorner(ThiefTakers x, int corner, int what) {
        try {
            x.corner(corner, what);
            return 0;
        } catch (IndexOutOfBoundsException e) {
            return 1;
        } catch (NoSuchElementException e) {
            return 2;
        }
    }

    static int letters(String name) {
        int code = 0;
        for (int k = 0; k < 6; k++) {
            code = code * 32 + (k < name.length() ? name.charAt(k) - 'a' + 1 : 0);
        }
        return code;
    }
}
