/** Promises 1 to 5 and 48's knots: the tape, texts and their faults, names. */
public final class TextPromisesTest {
    private static final String TWO = "corner a 1 2;corner b 3 4;";

    public static void main(String[] args) {
        newObject();
        feed();
        text();
        tokens();
        numbers();
        tooMany();
        expressions();
        knots();
        textBehindText();
        toldAlready();
        notTold();
        named();
        Told.end();
    }

    /** Promise 1. */
    private static void newObject() {
        ThiefTakers x = new ThiefTakers();
        for (int what = 0; what <= 12; what++) {
            Told.due("new: count(" + what + ")", x.count(what), 0);
        }
        Told.due("new: text(1)", x.text(1), -2);
        Told.due("new: fault(0)", x.fault(0), 0);
        Told.due("new: fault(1)", x.fault(1), -1);
        Told.due("new: undo()", x.undo(), -1);
        Told.due("new: back()", x.back(), -1);
        Told.due("new: keep()", x.keep(), 0);
        Told.due("new: feed", x.feed(0, 0, 0, 0, 0), 20);
    }

    /** Promise 2. */
    private static void feed() {
        ThiefTakers x = new ThiefTakers();
        int blanks = 0x20202020;
        for (int k = 1; k <= 35; k++) {
            Told.due("feed " + k, x.feed(blanks, blanks, blanks, blanks, blanks), 20 * k);
        }
        Told.due("feed beyond 700", x.feed(blanks, blanks, blanks, blanks, blanks), -1);
        Told.due("none came", x.text(701), -2);
        Told.due("700 blanks", x.text(700), 0);
        // 'c','o','r','n' is 0x636f726e: the highest byte comes first.
        x.feed(0x636f726e, 0x65722061, 0x20312032, 0x3b202020, blanks);
        Told.due("text by bytes", x.text(13), 1);
        Told.due("light by bytes", x.corner(0, 0), 1);
        Told.due("loot by bytes", x.corner(0, 1), 2);
        x.feed(blanks, blanks, blanks, blanks, 0x202020ff);
        Told.due("a byte above 127 is no token", x.text(20), -1);
        Told.due("its place", x.fault(1), 19);
    }

    /** Promise 3 and promise 4's "latest". */
    private static void text() {
        ThiefTakers x = new ThiefTakers();
        Told.feed(x, "corner a 1 2;corner!");
        Told.due("text(-1)", x.text(-1), -2);
        Told.due("text(21)", x.text(21), -2);
        Told.due("the tape stayed", x.text(13), 1);
        Told.due("the tape is empty", x.text(1), -2);
        Told.due("fed anew", x.feed(0, 0, 0, 0, 0), 20);
        Told.due("-2 leaves the fault", x.fault(0), 0);
        Told.due("a bad text", x.text(20), -1);
        Told.due("the tape is empty behind a fault too", x.text(1), -2);
        Told.due("-2 leaves the fault", x.fault(0), 1);
        Told.due("its place stays", x.fault(1), 0);
        Told.due("fault(2)", x.fault(2), -1);
        Told.due("fault(-1)", x.fault(-1), -1);
        Told.due("the town stays", x.count(0), 1);

        x = Told.of(TWO + "lane a b;guard g a;beat g b a;thief t b 3;");
        fillUp(x);
        Told.due("a fault", Told.tell(x, "corner a 1;"), -1);
        Told.due("hour stays", x.count(5), 1);
        Told.due("barred stays", x.count(9), 1);
        Told.due("facts stay", x.count(10), 1);
        Told.due("known stays", x.count(11), 0);
        Told.due("what can be undone stays", x.count(12), 1);
        Told.due("the image stays", x.back(), 1);
        fillUp(x);
        Told.due("the next text", Told.tell(x, TWO + "lane a b;guard g a;thief t b 3;"), 5);
        Told.due("hour is 0", x.count(5), 0);
        Told.due("nothing barred", x.count(9), 0);
        Told.due("none caught", x.count(6), 0);
        Told.due("nothing had", x.count(8), 0);
        Told.due("no facts", x.count(10), 0);
        Told.due("nothing to undo", x.undo(), -1);
        Told.due("no image", x.back(), -1);
        Told.due("no beat", x.guard(0, 1), -2);
        x.see(1, 0, 0, true);
        Told.due("all known", x.count(11), 1);
        Told.due("a text without lines", x.text(0), 0);
        Told.due("no corners", x.count(0), 0);
    }

    private static void fillUp(ThiefTakers x) {
        x.go(1 - x.count(5));
        x.see(1, 0, 0, true);
        x.known(0);
        x.keep();
        x.bar(0);
    }

    private static void tokens() {
        Told.fine(0, "");
        Told.fine(0, " \n ");
        Told.fine(2, "corner a 1 2;\ncorner\nb\n3\n4\n;\n");
        Told.fine(1, "corner a1 2;");
        Told.fine(1, "corner abcdef 1 2;");
        Told.fine(1, "corner corne 1 2;");
        Told.fault(1, "^;");
        Told.fault(1, "^x;");
        Told.fault(1, "^light;");
        Told.fault(1, "^and;");
        Told.fault(1, "corner^");
        Told.fault(1, "corner a 1 2^");
        Told.fault(1, "corner a 1 2  ^");
        Told.fault(1, "corner a 1 ^;");
        Told.fault(1, "corner a 1 2 ^3;");
        Told.fault(1, "corner a 1 2;^;");
        Told.fault(1, "corner ^abcdefg 1 2;");
        Told.fault(1, "^cornerx a 1 2;");
        Told.fault(1, "^cornera 1 2;");
        Told.fault(1, "corner ^A 1 2;");
        Told.fault(1, "corner a\t 1 2;".replace("\t", "^\t"));
        Told.fault(1, "corner a ^-1 2;");
        Told.fault(1, "corner ^corner 1 2;");
        Told.fault(1, "corner ^guards 1 2;");
        Told.fault(1, "corner ^not 1 2;");
        Told.fault(1, "corner ^1 1 2;");
        Told.fault(1, "corner a ^b 2;");
        Told.fault(1, TWO + "lane a ^lane;");
        Told.fault(1, TWO + "lane a b ^a;");
        Told.fault(1, TWO + "guard g a;beat g^;");
        Told.fault(1, TWO + "guard g a;beat g a ^1;");
        Told.fault(1, TWO + "guard g a;beat g a ^law take 1;");
        Told.fault(1, "law ^lane 1;");
        Told.fault(1, "law ^light 1;");
        Told.fault(1, "law ^x 1;");
        Told.fault(1, "law dread^;");
        Told.fault(1, "grip ^a;");
        Told.fault(1, "seed ^;");
    }

    private static void numbers() {
        Told.fine(1, "corner a 9 999;");
        Told.fine(1, "corner a 000000000000009 000000999;");
        Told.fault(2, "corner a ^10 2;");
        Told.fault(2, "corner a ^99999999999999999999999 2;");
        Told.fault(2, "corner a ^4294967297 2;");
        Told.fault(2, "corner a 1 ^1000;");
        Told.fine(3, TWO + "thief t a 9;");
        Told.fault(2, TWO + "thief t a ^10;");
        Told.fine(1, "grip 100;");
        Told.fault(2, "grip ^101;");
        Told.fine(1, "seed 99999;");
        Told.fault(2, "seed ^100000;");
        Told.fine(1, "law take 9999;");
        Told.fault(2, "law take ^10000;");
    }

    private static void tooMany() {
        StringBuilder ten = new StringBuilder();
        for (char c = 'a'; c <= 'j'; c++) {
            ten.append("corner ").append(c).append(" 0 0;");
        }
        Told.fine(10, ten.toString());
        Told.fault(2, ten + "^corner k 0 0;");
        Told.fault(2, ten + "^corner a");
        StringBuilder lanes = new StringBuilder("corner a 0 0;corner b 0 0;corner c 0 0;corner d 0 0;corner e 0 0;");
        for (char c = 'a'; c <= 'e'; c++) {
            for (char d = 'a'; d <= 'e'; d++) {
                if (c != d) {
                    lanes.append("steps ").append(c).append(' ').append(d).append(';');
                }
            }
        }
        Told.fine(25, lanes.toString());
        Told.fault(2, lanes + "^lane a b;");
        Told.fault(2, lanes + "^steps a b;");
        String guards = TWO + "guard g a;guard h a;guard i b;";
        Told.fine(5, guards);
        Told.fault(2, guards + "^guard g z;");
        String thieves = TWO + "thief s a 0;thief t a 0;thief u b 0;thief v b 0;";
        Told.fine(6, thieves);
        Told.fault(2, thieves + "^thief w a 0;");
        String beat = TWO + "guard g a;beat g a b a b a a b b";
        Told.fine(4, beat + ";");
        Told.fault(2, beat + " ^a;");
        Told.fault(2, beat + " ^z;");
        Told.fault(1, beat + " ^abcdefg;");
        Told.fault(1, beat + " ^take;");
    }

    private static void expressions() {
        Told.fine(1, "law dread light+far*loot-bold/had<=guards and not hour or 2;");
        Told.fine(3, "law dread 1;law take 1;law stir 1;");
        Told.fine(1, "law dread ((((((((1))))))));");
        Told.fault(2, "law dread ((((((((^(1)))))))));");
        Told.fault(1, "law dread ((((((((1^(1)))))))));");
        Told.fine(1, "law dread (((((((1)))))))+((((((((2))))))));");
        Told.fine(1, "law dread not not not 1;");
        Told.fine(1, "law dread 1 and not 2;");
        Told.fine(1, "law dread (not 1)+2;");
        Told.fine(1, "law dread (1<2)<3;");
        Told.fine(1, "law dread 1<2 and 2<3 or 3<4;");
        Told.fine(1, "law dread not 1<2;");
        Told.fine(1, "law dread 1<>2;");
        Told.fault(1, "law dread 1<2^<3;");
        Told.fault(1, "law dread not 1<2^=3;");
        Told.fault(1, "law dread 1<2+3*4^>=5;");
        Told.fault(1, "law dread 1< ^=2;");
        Told.fault(1, "law dread 1< ^>2;");
        Told.fault(1, "law dread 1=^<2;");
        Told.fault(1, "law dread 1>^<2;");
        Told.fault(1, "law dread 1>^>2;");
        Told.fault(1, "law dread 1+^not 2;");
        Told.fault(1, "law dread 1<^not 2;");
        Told.fault(1, "law dread 1 ^not 2;");
        Told.fault(1, "law dread ^-1;");
        Told.fault(1, "law dread 1+^+1;");
        Told.fault(1, "law dread 1 ^1;");
        Told.fault(1, "law dread 1 ^light;");
        Told.fault(1, "law dread (1^;");
        Told.fault(1, "law dread (1^");
        Told.fault(1, "law dread 1^);");
        Told.fault(1, "law dread (^);");
        Told.fault(1, "law dread ^x;");
        Told.fault(1, "law dread ^guard;");
        Told.fault(1, "law dread 1 and^;");
        Told.fault(1, "law dread 1^");
        Told.fault(1, "law dread 1^%2;");
        Told.fault(1, "law dread 1 ^orr 2;");
    }

    private static void knots() {
        String sixtyThree = "1" + "+1".repeat(31);
        Told.fine(1, "law dread " + sixtyThree + ";");
        Told.fault(2, "law dread " + sixtyThree + "+^1;");
        Told.fine(2, "law dread " + sixtyThree + ";law take 1;");
        Told.fault(2, "law dread " + sixtyThree + ";law take 1^+1;");
        Told.fault(2, "law dread " + sixtyThree + ";law take 1^<=1;");
        Told.fault(2, "law dread " + sixtyThree + ";law take 1 ^and 1;");
        Told.fault(2, "law dread " + sixtyThree + ";law take not ^far;");
        Told.fault(2, "law dread " + "not ".repeat(64) + "^1;");
        Told.fault(2, "law dread " + "not ".repeat(64) + "^not 1;");
        Told.fault(1, "law dread " + sixtyThree + ";law take 1 ^take;");
        Told.fault(2, "law dread " + sixtyThree + ";law take 1;law stir ^1;");
        ThiefTakers x = Told.of("law dread (light+2)*(far-1);law take not bold>=3 and 1 or 0;law stir (((7)));");
        Told.due("knots: brackets are none", x.count(4), 7 + 8 + 1);
    }

    /** Nothing of a text is left in those behind it, be they good or not. */
    private static void textBehindText() {
        ThiefTakers x = new ThiefTakers();
        Told.due("a fault", Told.tell(x, "grip 5;seed 7;corner a 1 1;corner b 1 1;lane a b;law take ((1+2*3"), -1);
        Told.due("none behind it", Told.tell(x, "grip 6;seed 8;corner a 1 1;law take 1;"), 4);
        Told.due("fault(0)", x.fault(0), 0);
        Told.due("fault(1)", x.fault(1), -1);
        Told.due("open brackets are forgotten", Told.tell(x, "law take 1);"), -1);
        Told.due("their place", x.fault(1), 10);
        String long40 = "1" + "+1".repeat(20);
        for (int k = 0; k < 5; k++) {
            Told.due("knots anew", Told.tell(x, "corner a 1 1;thief t a 0;law take " + long40 + "+" + k + ";"), 3);
            Told.due("their value", x.law(1, 0, 0), 21 + k);
        }
        String numbers = "corner a 1 1;guard g a;thief t a 0;grip 50;";
        for (int k = 0; k < 4; k++) {
            // From seed 1 the first number is 16838, from seed 0 it is 0.
            Told.due("seed 1", Told.tell(x, numbers.replace("50", "38") + "seed 1;"), 5);
            x.go(1);
            Told.due("38 isn't below 38", x.count(6), 0);
            if (k % 2 == 1) {
                Told.tell(x, "");
            }
            Told.due("no seed", Told.tell(x, numbers.replace("50", "1")), 4);
            x.go(1);
            Told.due("0 is below 1", x.count(6), 1);
        }
        Told.due("seed 1", Told.tell(x, numbers.replace("50", "39") + "seed 1;"), 5);
        x.go(1);
        Told.due("38 is below 39", x.count(6), 1);
    }

    private static void toldAlready() {
        Told.fault(3, TWO + "corner ^a 1 2;");
        Told.fine(5, TWO + "lane a b;steps a b;steps b a;");
        Told.fault(3, TWO + "lane a b;lane a ^b;");
        Told.fault(3, TWO + "lane a b;lane b ^a;");
        Told.fault(3, TWO + "steps a b;lane a b;steps a ^b;");
        Told.fine(3, TWO + "guard a a;");
        Told.fine(5, TWO + "guard a a;thief a a 1;thief b b 2;");
        Told.fault(3, TWO + "guard g a;guard ^g b;");
        Told.fault(3, TWO + "thief t a 1;thief ^t b 2;");
        Told.fault(3, TWO + "guard g a;beat g a;beat ^g z;");
        Told.fault(3, "grip 1;^grip 101;");
        Told.fault(3, "seed 1;^seed 1;");
        Told.fault(3, "law take 1;law ^take 1;");
        Told.fine(2, "law take 1;law stir 1;");
    }

    private static void notTold() {
        Told.fault(4, TWO + "lane ^c a;");
        Told.fault(4, TWO + "lane a ^c;");
        Told.fault(4, TWO + "steps ^c c;");
        Told.fault(5, TWO + "lane a ^a;");
        Told.fault(5, TWO + "steps b ^b;");
        Told.fault(4, TWO + "guard g ^g;");
        Told.fault(4, TWO + "guard a ^c;");
        Told.fault(4, TWO + "beat ^g a;guard g a;");
        Told.fault(4, TWO + "guard g a;beat ^a a;");
        Told.fault(4, TWO + "guard g a;beat g a ^c;");
        Told.fault(4, TWO + "thief t ^c 1;");
        Told.fault(4, "thief t ^a 10;corner a 1 1;");
    }

    /** Promise 5. */
    private static void named() {
        ThiefTakers x = Told.of("corner a 1 2;corner abcdef 3 4;guard a a;guard zz a;thief b a 1;thief a a 2;");
        Told.due("named(0, a)", x.named(0, 1 << 25), 0);
        Told.due("named(0, abcdef)", x.named(0, 1 << 25 | 2 << 20 | 3 << 15 | 4 << 10 | 5 << 5 | 6), 1);
        Told.due("named(1, a)", x.named(1, Told.letters("a")), 0);
        Told.due("named(1, zz)", x.named(1, 26 << 25 | 26 << 20), 1);
        Told.due("named(2, a)", x.named(2, Told.letters("a")), 1);
        Told.due("named(2, b)", x.named(2, Told.letters("b")), 0);
        Told.due("named(0, b)", x.named(0, Told.letters("b")), -1);
        Told.due("named(0, 1)", x.named(0, 1), -1);
        Told.due("named(0, 0)", x.named(0, 0), -1);
        Told.due("named(0, -1)", x.named(0, -1), -1);
        Told.due("named(3, a)", x.named(3, Told.letters("a")), -1);
        Told.due("named(-1, a)", x.named(-1, Told.letters("a")), -1);
    }
}
