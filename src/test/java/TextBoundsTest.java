import java.math.BigInteger;
import java.util.ArrayList;
import java.util.List;

/** Part 2 of the document and promises 12 to 15: THE TAPE, TOKENS, lines and NAMES; each sentence that names a bound. */
public final class TextBoundsTest {
    private static final String[] KEYWORDS = ("enum struct if is bits text until union by else to from here times pad magic"
            + " sum add xor ones roll of left begin and or not").split(" ");
    private static final String SIGNS = "{}()[];:,=<>+-*/%&";

    /** A field of each form, with # where its NAME stands and @ where a second NAME of its own does. */
    private static final String[] FIELDS = {"u1 #;", "u1 # is e;", "u1 #[1];", "u1 #[];", "t #;", "t #[1];", "t #[];",
        "bits u1 #{@:1};", "bits u1 @{#:1};", "bits u1 @{x@:1,#:1};", "text #[1];", "text # until 0;",
        "union # by 1{1:t;};", "to t # by u1;", "magic #=1;", "sum add u1 # of 0,0;"};
    /** What all of these find told ahead of them. */
    private static final String TOLD = "enum e{a=1}struct t{u1 v;}";

    public static void main(String[] args) {
        threeThousandBytes();
        lastBytesThatFit();
        textsOfThreeThousand();
        feedWidths();
        feedRefusals();
        cutBounds();
        emptyThen();
        staysThen();
        blanks();
        oneByteEach();
        asLongAsCanBe();
        words();
        numbers();
        keywordsAreNoNames();
        wholesAreNoNames();
        almostWholes();
        wholes();
        everyPrefix();
        everyTokenSpoilt();
        everyTokenLeftOut();
        numbersAreNoNames();
        choices();
        namesBehindIs();
        namesOfStructures();
        namesOfPointers();
        namesInExprs();
        namesToldAlready();
        wrongBounds();
        describeBounds();
        takesThePlace();
        Check.end();
    }

    private static void threeThousandBytes() {
        Check.says("THE TAPE has at most 3000 bytes. feed: how many it has. FULL.");
        OverlayViewer x = new OverlayViewer();
        for (int n = 8; n <= 3000; n += 8) {
            Check.due("feed", x.feed(0, 8), n);
        }
        for (int n = 1; n <= 8; n++) {
            Check.due("feed " + n + " more", x.feed(0, n), Check.FULL);
        }
        Check.due("count(1)", x.count(1), 3000);
        Check.due("cut(3000)", x.cut(3000), 3000);
        Check.due("cut(3001)", x.cut(3001), Check.RANGE);
        Check.due("cut(2999)", x.cut(2999), 2999);
        Check.due("one more goes", x.feed(0, 1), 3000);
    }

    private static void lastBytesThatFit() {
        Check.says("feed: FULL (no room; it changes nothing)");
        OverlayViewer x = new OverlayViewer();
        Check.feed(x, " ".repeat(2993));
        Check.due("8 do not fit", x.feed(Check.packed("########"), 8), Check.FULL);
        Check.due("count(1)", x.count(1), 2993);
        Check.due("7 do", x.feed(Check.packed("       "), 7), 3000);
        Check.due("nothing of the 8 was kept", x.describe(), -10 - 3000);
        Check.due("wrong", x.wrong(), 2);
    }

    private static void textsOfThreeThousand() {
        Check.says("THE TAPE has at most 3000 bytes; the end: the text's length is its PLACE");
        Check.good(1, "struct s{" + " ".repeat(2990) + "}");
        Check.fault(2, " ".repeat(3000) + "^");
        Check.fault(2, "struct s{" + " ".repeat(2991) + "^");
        Check.fault(1, " ".repeat(2999) + "^#");
        Check.fault(1, "^" + "#".repeat(3000));
        Check.fault(1, "struct ^" + "a".repeat(2993));
        Check.fault(2, "^" + "{".repeat(3000));
        // as many TOKENS and steps of an expr as can be
        Check.good(1, "struct s{text t[" + "1+".repeat(1490) + "1];}");
        OverlayViewer x = Check.laid("struct s{}");
        Check.due("an expr of 3000", Check.evaluate(x, 0, 0, "1+".repeat(1499) + "12"), 0);
        Check.due("what it gives", x.out(), 1511);
        OverlayViewer z = Check.laid("struct s{}");
        Check.due("an expr of 3000 TOKENS", Check.evaluate(z, 0, 0, "-1" + "+1".repeat(1499)), 0);
        Check.due("what it gives", z.out(), 1498);
        OverlayViewer y = Check.laid("struct s{}");
        Check.due("a path of 3000", Check.find(y, 0, " ".repeat(2999) + "0"), -10);
    }

    private static void feedWidths() {
        Check.says("feed: The n lowest bytes of w, the highest first, come to THE TAPE");
        OverlayViewer x = Check.laid("struct s{u1 a;u1 ab;u1 abc;u1 abcd;u1 abcde;u1 abcdef;u1 abcdefg;u1 abcdefgh;}", new int[8]);
        for (int n = 1; n <= 8; n++) {
            long w = Check.packed("zzzzzzzz".substring(n) + "abcdefgh".substring(0, n));
            Check.due("feed " + n, x.feed(w, n), n);
            Check.due("what came", x.find(0), n);
        }
        x.feed(Check.packed("abc"), 3);
        x.feed(Check.packed("de"), 2);
        Check.due("behind what is there", x.find(0), 5);
    }

    private static void feedRefusals() {
        Check.says("feed: RANGE: n is not 1 .. 8; FULL.");
        OverlayViewer x = new OverlayViewer();
        for (int n : new int[] {0, 9, -1, Integer.MIN_VALUE, Integer.MAX_VALUE}) {
            Check.due("n " + n, x.feed(1, n), Check.RANGE);
        }
        Check.due("count(1)", x.count(1), 0);
        Check.feed(x, "a".repeat(3000));
        for (int n : new int[] {0, 9, -1, Integer.MIN_VALUE, Integer.MAX_VALUE}) {
            Check.due("RANGE ahead of FULL, n " + n, x.feed(1, n), Check.RANGE);
        }
        Check.due("FULL", x.feed(1, 1), Check.FULL);
    }

    private static void cutBounds() {
        Check.says("cut: THE TAPE keeps its first n bytes: n. RANGE: it has not so many.");
        OverlayViewer x = Check.laid("struct s{u1 ab;u1 abc;u1 abcd;}", 1, 2, 3);
        Check.due("cut(0) of an empty one", x.cut(0), 0);
        Check.due("cut(1) of an empty one", x.cut(1), Check.RANGE);
        Check.feed(x, "abcde");
        Check.due("cut(6)", x.cut(6), Check.RANGE);
        Check.due("cut(-1)", x.cut(-1), Check.RANGE);
        for (int n : Check.FAR) {
            Check.due("cut(" + n + ")", x.cut(n), Check.RANGE);
        }
        Check.due("it stays", x.count(1), 5);
        Check.due("cut(5)", x.cut(5), 5);
        Check.due("cut(3)", x.cut(3), 3);
        Check.due("cut(4) then", x.cut(4), Check.RANGE);
        Check.due("its first ones", x.find(0), 2);
        Check.feed(x, "abcde");
        x.cut(1);
        Check.feed(x, "b");
        Check.due("what is fed comes behind these", x.find(0), 1);
        Check.feed(x, "abcde");
        Check.due("cut(0)", x.cut(0), 0);
        Check.due("nothing is left", x.find(0), 0);
    }

    private static void emptyThen() {
        Check.says("Some calls read it as a text; it is empty then (also if they refuse)");
        OverlayViewer x = Check.laid("struct s{u1 a;}", 1);
        String[] texts = {"a", "b", "#", "", "a", "b", "1/0", "#", ""};
        int[] due = {1, -10, -10, 0, 0, -10, Check.RANGE, -10, -10};
        for (int i = 0; i < texts.length; i++) {
            Check.feed(x, texts[i]);
            Check.due((i < 4 ? "find " : "evaluate ") + texts[i], i < 4 ? x.find(0) : x.evaluate(0, 0), due[i]);
            Check.due("the tape then", x.count(1), 0);
        }
        Check.due("describe a fault", Check.describe(x, "struct"), -16);
        Check.due("the tape then", x.count(1), 0);
        Check.due("describe", Check.describe(x, "struct s{}"), 1);
        Check.due("the tape then", x.count(1), 0);
    }

    private static void staysThen() {
        Check.says("(but for a number that is none); NONE (THE TAPE stays, as with KIND)");
        OverlayViewer x = Check.laid("struct s{u1 a;}", 1);
        Check.feed(x, "a");
        for (int tree : new int[] {-1, 1, Integer.MIN_VALUE, Integer.MAX_VALUE}) {
            Check.due("find(" + tree + ")", x.find(tree), Check.NONE);
            Check.due("evaluate(" + tree + ", 0)", x.evaluate(tree, 0), Check.NONE);
            Check.due("evaluate(" + tree + ", 1)", x.evaluate(tree, 1), Check.NONE);
        }
        for (int n : new int[] {-1, 2, Integer.MIN_VALUE, Integer.MAX_VALUE}) {
            Check.due("evaluate(0, " + n + ")", x.evaluate(0, n), Check.NONE);
        }
        Check.due("evaluate(0, 1)", x.evaluate(0, 1), Check.KIND);
        Check.due("masked", x.masked(0, 0), Check.NONE);
        Check.due("the tape stays", x.count(1), 1);
        Check.due("and is read then", x.find(0), 1);
    }

    private static void blanks() {
        Check.says("TOKENS, with blanks (32, 10) between as may be");
        Check.good(1, " \n struct \n\n s  {\n} \n");
        Check.good(1, "struct s{u1 a;u1 b[a+1];}");
        Check.good(1, "struct\ns{u1\na;u1\nb[a+1];}");
        Check.fault(2, "struct s{u1 a ;\n \n^");
        for (int blank : new int[] {0, 9, 11, 12, 13, 31, 33, 127, 160, 255}) {
            Check.fault(1, "struct^" + (char) blank + "s{}");
        }
    }

    private static void oneByteEach() {
        Check.says("SIGNS { } ( ) [ ] ; : , = < > + - * / % &; 1 it is none (like any other byte)");
        for (int b = 0; b < 256; b++) {
            char c = (char) b;
            boolean blank = b == 32 || b == 10;
            boolean token = c >= 'a' && c <= 'z' || c >= '0' && c <= '9' || SIGNS.indexOf(c) >= 0;
            OverlayViewer x = new OverlayViewer();
            x.feed(b, 1);
            Check.due("the byte " + b, x.describe(), blank ? -11 : -10);
            Check.due("wrong of the byte " + b, x.wrong(), blank || token ? 2 : 1);
        }
    }

    private static void asLongAsCanBe() {
        Check.says("TOKENS ... each as long as can be");
        Check.fault(2, "^structs{}");
        Check.fault(2, "struct s{u1^;}");
        Check.fault(4, "struct s{^u1a;}");
        Check.fault(2, "struct s{u1 a[2]^b;}");
        Check.good(1, "struct s{u1 u1a;u1 if1;u1 nota;}");
        OverlayViewer x = Check.laid("struct s{u1 a;u1 ab;u1 a1;}", 1, 2, 3);
        Check.due("ab", Check.worked(x, "ab"), 2);
        Check.due("a1", Check.worked(x, "a1"), 3);
        Check.due("12", Check.worked(x, "12"), 12);
        Check.due("1 2 are two", Check.evaluate(x, 0, 0, "1 2"), -12);
        Check.says("(A row of letters and digits goes as far as small letters and digits do; one that is no such WORD or "
                + "NUMBER is no TOKEN)");
        Check.fault(1, "struct s{pad ^1b;}");
        Check.fault(1, "struct s{pad ^12abc34;}");
        Check.fault(1, "struct s{u1 ^1a;}");
        Check.fault(2, "struct s{u1 a^");
        Check.fault(1, "struct s{u1 a^B;}");
        Check.fault(1, "struct s{u1 a^_b;}");
        Check.fault(1, "struct s{pad 1^B;}");
    }

    private static void words() {
        Check.says("WORDS, a small letter and then small letters and digits, 8 in all at most");
        Check.good(1, "struct a{u1 z;u1 a2345678;u1 zzzzzzzz;u1 abcdefg9;}");
        Check.fault(1, "struct ^abcdefghi{}");
        Check.fault(1, "struct ^a23456789{}");
        Check.fault(1, "struct s{u1 ^abcdefgh0;}");
        Check.fault(1, "^structure");
        OverlayViewer x = Check.laid("struct s{u1 abcdefgh;u1 abcdefgi;}", 1, 2);
        Check.due("the 8th letter counts", Check.find(x, 0, "abcdefgi"), 2);
        Check.due("9 are no word", Check.find(x, 0, "abcdefghi"), -10);
    }

    private static void numbers() {
        Check.says("NUMBERS, 1 to 9 digits, or 0x and 1 to 8 of 0 .. 9, a .. f");
        OverlayViewer x = Check.laid("struct s{}");
        String[] texts = {"0", "9", "00", "000000000", "000000009", "123456789", "999999999", "0x0", "0xf", "0x9", "0xa",
            "0x00000000", "0xffffffff", "0x80000000", "0x12ab9f", "0x0000000f"};
        long[] due = {0, 9, 0, 0, 9, 123456789, 999999999, 0, 15, 9, 10, 0, 0xffffffffL, 0x80000000L, 0x12ab9f, 15};
        for (int i = 0; i < texts.length; i++) {
            Check.due(texts[i], Check.worked(x, texts[i]), due[i]);
        }
        for (String text : new String[] {"1234567890", "0000000000", "0x", "0x123456789", "0x000000000", "0xg", "0x1g", "00x1",
            "1x0", "0xx", "0x1x", "9a", "0b1", "1e5"}) {
            Check.fault(1, "enum e{a=^" + text + "}");
            Check.fault(1, "enum e{a=-^" + text + "}");
        }
        Check.fault(1, "enum e{a=0^X1}");
        Check.fault(1, "enum e{a=0xa^F}");
    }

    private static void keywordsAreNoNames() {
        Check.says("KEYWORDS: enum struct if ... not. Other WORDS are NAMES.");
        for (String word : KEYWORDS) {
            Check.fault(2, "struct ^" + word + "{}");
            Check.fault(2, "enum ^" + word + "{a=1}");
            Check.fault(2, "enum e{^" + word + "=1}");
            Check.fault(2, "struct s{u1 ^" + word + ";}");
            Check.fault(2, "struct s{bits u1 b{^" + word + ":1};}");
            Check.good(1, "struct " + word + "x{u1 " + word + "1;u1 y" + word + ";}");
            OverlayViewer x = Check.laid("struct s{u1 a;}", 1);
            Check.due("find " + word, Check.find(x, 0, word), -10);
            Check.due("find a " + word, Check.find(x, 0, "a " + word), -11);
        }
    }

    private static void wholesAreNoNames() {
        Check.says("KEYWORDS: and the WHOLES: u or s, a digit 1 .. 8, perhaps b.");
        for (String first : new String[] {"u", "s"}) {
            for (int digit = 1; digit <= 8; digit++) {
                for (String last : new String[] {"", "b"}) {
                    String word = first + digit + last;
                    Check.fault(2, "struct ^" + word + "{}");
                    Check.fault(2, "struct s{u1 ^" + word + ";}");
                    Check.fault(2, "struct s{u1 a;u1 b[^" + word + "];}");
                    OverlayViewer x = Check.viewer("struct s{" + word + " a;}");
                    Check.due("size of " + word, x.size(0), digit);
                }
            }
        }
    }

    private static void almostWholes() {
        Check.says("the WHOLES: u or s, a digit 1 .. 8, perhaps b. Other WORDS are NAMES.");
        for (String word : new String[] {"u", "s", "u0", "u9", "s0", "s9", "ub", "sb", "u1c", "s1a", "u1bb", "u10", "u11b", "t1",
            "r8", "v1b", "us", "u0b", "u9b", "b1", "u1b1"}) {
            Check.good(1, "struct s{u1 " + word + ";}");
            Check.good(1, "struct " + word + "{}");
            Check.fault(4, "struct z{^" + word + " a;}");
            Check.fault(2, "struct z{bits ^" + word + " a{p:1};}");
            Check.fault(2, "struct z{to z a by ^" + word + ";}");
            Check.fault(2, "struct z{sum add ^" + word + " a of 0,0;}");
        }
    }

    private static void wholes() {
        Check.says("A WHOLE has as many BYTES as its digit says, the lowest first (with b the highest first); u without sign, "
                + "s with one (64 bits at most; a u8 or u8b from 2^63 on is that less 2^64).");
        int[][] rows = {{0x81, 0x92, 0xa3, 0xb4, 0xc5, 0xd6, 0xe7, 0xf8}, {1, 2, 3, 4, 5, 6, 7, 8},
            {255, 255, 255, 255, 255, 255, 255, 255}, {0, 0, 0, 0, 0, 0, 0, 0}, {128, 0, 0, 0, 0, 0, 0, 128},
            {127, 255, 255, 255, 255, 255, 255, 127}};
        for (int[] row : rows) {
            for (int width = 1; width <= 8; width++) {
                OverlayViewer x = Check.laid("struct s{u" + width + " a;}struct t{u" + width + "b a;}struct q{s" + width
                        + " a;}struct r{s" + width + "b a;}", row);
                for (int s = 0; s < 4; s++) {
                    Check.due("lay", x.lay(0, s, 0), 1 + s);
                    Check.due("to", x.node(1 + s, 1, 2), width);
                    Check.due("structure " + s + " of width " + width, x.value(1 + s, 1), read(row, width, s % 2 == 1, s >= 2));
                }
            }
        }
    }

    private static long read(int[] row, int width, boolean big, boolean signed) {
        BigInteger all = BigInteger.ZERO;
        for (int i = 0; i < width; i++) {
            all = all.shiftLeft(8).add(BigInteger.valueOf(row[big ? i : width - 1 - i]));
        }
        if ((signed || width == 8) && all.testBit(8 * width - 1)) {
            all = all.subtract(BigInteger.ONE.shiftLeft(8 * width));
        }
        return all.longValueExact();
    }

    private static final String ALL_FORMS = "enum e { x = 1 , y = - 2 } struct t { u1 v ; } struct o { } struct s { u1 a is e ; "
            + "u2b b [ a * 2 ] ; u1 c [ ] ; t d ; t f [ ( 1 + a ) ] ; t g [ ] ; bits u1 h { p : 1 , q : 2 } ; text i [ p ] ; "
            + "text j until 0 ; union k by - a { 1 : t ; - 2 : t ; else t ; } ; } struct r { to r l by u1 from here + 1 times 2 ; "
            + "pad 4 ; magic m = 1 * 2 ; sum add u1 n of 0 , left ; if not n = 1 and begin < 2 or 0 > n : u1 w ; to s z by s8b ; }";

    private static String joined(List<String> tokens) {
        return String.join(" ", tokens);
    }

    private static void everyPrefix() {
        Check.says("2 it can't stand there (the end: the text's length is its PLACE)");
        String[] tokens = ALL_FORMS.split(" ");
        List<String> read = new ArrayList<>();
        int structures = 0;
        int open = 0;
        for (int i = 0; i < tokens.length; i++) {
            if (open == 0 && read.size() > 0) {
                Check.good(structures, joined(read));
            } else {
                Check.fault(2, joined(read) + "^");
            }
            read.add(tokens[i]);
            structures += tokens[i].equals("struct") ? 1 : 0;
            open += tokens[i].equals("struct") || tokens[i].equals("enum") ? 1 : 0;
            // an item ends with the } that is followed by another item or by nothing
            boolean last = i + 1 == tokens.length || tokens[i + 1].equals("struct") || tokens[i + 1].equals("enum");
            open -= last ? 1 : 0;
        }
        Check.good(structures, ALL_FORMS);
        Check.due("structures", structures, 4);
    }

    private static void everyTokenSpoilt() {
        Check.says("FAULTS, the first TOKEN with one: 1 it is none; 2 it can't stand there");
        String[] tokens = ALL_FORMS.split(" ");
        for (int i = 0; i < tokens.length; i++) {
            List<String> spoilt = new ArrayList<>(List.of(tokens));
            spoilt.set(i, "^?");
            Check.fault(1, joined(spoilt));
            boolean item = tokens[i].equals("struct") || tokens[i].equals("enum");
            spoilt.set(i, item ? "^pad" : "^enum");
            Check.fault(2, joined(spoilt));
            spoilt.set(i, item ? "^{" : "^struct");
            Check.fault(2, joined(spoilt));
        }
    }

    /** The TOKENS of ALL_FORMS without which it has no FAULT. */
    private static final List<Integer> MAY_BE_LEFT_OUT = List.of(9, 89, 96, 128, 129, 130, 142);
    /** Those without which the NAME behind them stands where a structure's is wanted. */
    private static final List<Integer> AHEAD_OF_NAMES = List.of(15, 26, 31, 39, 44, 47, 57, 75, 81, 86, 110, 125, 155);
    /** Those without which the FAULT comes later, and the TOKENS that have it then. */
    private static final List<Integer> MISSED_LATER = List.of(50, 62, 111, 158, 159), MISSED_AT = List.of(54, 65, 113, 161, 161);

    private static void everyTokenLeftOut() {
        Check.says("2 it can't stand there; 4 a NAME that was not told as is wanted");
        String[] tokens = ALL_FORMS.split(" ");
        for (int i = 0; i < tokens.length; i++) {
            List<String> fewer = new ArrayList<>(List.of(tokens));
            fewer.add("");
            int later = MISSED_LATER.indexOf(i);
            int at = later < 0 ? i + 1 : MISSED_AT.get(later);
            fewer.set(at, "^" + fewer.get(at));
            fewer.remove(i);
            String text = joined(fewer).stripTrailing();
            if (MAY_BE_LEFT_OUT.contains(i)) {
                Check.good(4, text.replace("^", ""));
            } else {
                Check.fault(AHEAD_OF_NAMES.contains(i) ? 4 : 2, text);
            }
        }
    }

    private static void numbersAreNoNames() {
        Check.says("2 it can't stand there (a NUMBER where a NAME is wanted)");
        // 97 is the letter a: a NUMBER is not to be taken for the NAME that has its bytes
        for (String number : new String[] {"97", "0x61", "1", "0"}) {
            Check.fault(2, "struct a{}struct ^" + number + "{}");
            Check.fault(2, "enum a{a=1}enum ^" + number + "{a=1}");
            Check.fault(2, "enum e{a=1,^" + number + "=1}");
            Check.fault(2, "enum a{b=1}struct s{u1 c is ^" + number + ";}");
            Check.fault(2, "struct a{}struct s{^" + number + " b;}");
            Check.fault(2, "struct a{}struct s{a ^" + number + ";}");
            Check.fault(2, "struct a{}struct s{union u by 1{1:^" + number + ";};}");
            Check.fault(2, "struct a{}struct s{union u by 1{1:a;else ^" + number + ";};}");
            Check.fault(2, "struct a{}struct s{to ^" + number + " b by u1;}");
            Check.fault(2, "struct a{}struct s{to a ^" + number + " by u1;}");
            Check.fault(2, "struct a{}struct s{to a b by ^" + number + ";}");
            Check.fault(2, "struct s{bits u1 b{^" + number + ":1};}");
            Check.fault(2, "struct s{bits ^" + number + " b{p:1};}");
            Check.fault(2, "struct s{text ^" + number + "[1];}");
            Check.fault(2, "struct s{magic ^" + number + "=1;}");
            Check.fault(2, "struct s{sum add ^" + number + " a of 0,0;}");
            Check.fault(2, "struct s{sum add u1 ^" + number + " of 0,0;}");
        }
        OverlayViewer x = Check.laid("struct s{u1 b;u1 a;}", 5, 6);
        Check.due("a NUMBER in an expr", Check.worked(x, "97"), 97);
        Check.due("a NUMBER in a path", Check.find(x, 0, "97"), -10);
        Check.says("2 it can't stand there (a NAME where a NUMBER is wanted)");
        for (String name : new String[] {"a", "u1", "if"}) {
            Check.fault(2, "enum e{a=^" + name + "}");
            Check.fault(2, "struct s{bits u1 b{p:^" + name + "};}");
            Check.fault(2, "struct s{text t until ^" + name + ";}");
            Check.fault(2, "struct s{pad ^" + name + ";}");
            Check.fault(2, "struct s{to s a by u1 times ^" + name + ";}");
            Check.fault(2, "struct s{magic m=^" + name + ";}");
            Check.fault(2, "struct t{}struct s{union u by 1{^" + name + ":t;};}");
        }
    }

    private static void choices() {
        Check.says("In these lines [ X ] is X or nothing, { X } any number of X, | parts choices");
        Check.good(1, "struct s{to s a by u1;to s b by u1 from 1;to s c by u1 times 1;to s d by u1 from 1 times 1;}");
        Check.fault(2, "struct s{to s a by u1 times 1 ^from 1;}");
        Check.fault(2, "struct s{to s a by u1 times 1 ^times 1;}");
        Check.fault(2, "struct s{to s a by u1 from 1 ^from 1;}");
        Check.good(2, "struct t{}struct s{union a by 1{1:t;};union b by 1{1:t;else t;};union c by 1{1:t;2:t;-3:t;else t;};}");
        Check.fault(2, "struct t{}struct s{union a by 1{^};}");
        Check.fault(2, "struct t{}struct s{union a by 1{^else t;};}");
        Check.fault(2, "struct t{}struct s{union a by 1{1:t;else t;^else t;};}");
        Check.fault(2, "struct t{}struct s{union a by 1{1:t;else t;^1:t;};}");
        Check.fault(2, "struct t{}struct s{union a by 1{1 ^t;};}");
        Check.fault(2, "struct t{}struct s{union a by 1{1:^;};}");
        Check.fault(2, "struct t{}struct s{union a by 1{1:t;else ^;};}");
        Check.fault(2, "struct t{}struct s{union a by 1{1:t;else ^1;};}");
        Check.fault(2, "struct t{}struct s{union a by 1{- ^-1:t;};}");
        Check.fault(2, "struct t{}struct s{union a by 1 ^1:t;};}");
        Check.good(1, "struct s{magic a=1;magic b=*;magic c=* 1 2*3;}");
        Check.fault(2, "struct s{magic a=1 ^-1;}");
        for (String kind : new String[] {"add", "xor", "ones", "roll"}) {
            Check.good(1, "struct s{sum " + kind + " u1 a of 0,0;}");
        }
        for (String kind : KEYWORDS) {
            if (!List.of("add", "xor", "ones", "roll").contains(kind)) {
                Check.fault(2, "struct s{sum ^" + kind + " u1 a of 0,0;}");
            }
        }
        Check.fault(2, "struct s{sum ^a u1 a of 0,0;}");
        Check.good(1, "struct s{text a[1];text b until 1;}");
        Check.fault(2, "struct s{text a[1]^until 1;}");
        Check.fault(2, "struct s{text a until 1^[1];}");
        Check.good(0, "enum e{a=1,b=-1}");
        Check.fault(2, "enum e{a=1 ^b=1}");
        Check.fault(2, "enum e{a=^}");
        Check.fault(2, "enum e{a=-^}");
        Check.fault(2, "enum e{a=^,b=1}");
        Check.fault(2, "enum e{a=-^,b=1}");
        Check.fault(2, "enum e ^a=1}");
        Check.fault(2, "struct s ^u1 a;}");
        Check.fault(2, "struct s ^}");
        Check.fault(2, "struct t{}struct s{union a by 1{-^:t;};}");
        Check.fault(2, "struct s{sum ^;}");
        Check.fault(2, "struct s{pad ^;}");
        Check.fault(2, "struct s{text ^;}");
        Check.fault(2, "struct s{to ^;}");
        Check.fault(2, "struct s{bits ^;}");
        Check.fault(2, "struct s{union ^;}");
        Check.fault(2, "struct s{magic ^;}");
        Check.good(1, "struct s{if 1:pad 1;if 1:magic a=1;if 1:text b[1];if 1:to s c by u1;if 1:sum add u1 d of 0,0;}");
        Check.good(2, "struct t{}struct s{if 1:t a;if 1:bits u1 b{p:1};if 1:union c by 1{1:t;};if 1:u1 d[1];}");
        Check.fault(2, "struct s{if 1:^;}");
        Check.fault(2, "struct s{if 1:^}");
        Check.fault(2, "struct s{u1 a;^;}");
        Check.says("step: sums [ ( = | < | > ) sums ]");
        for (String a : new String[] {"=", "<", ">"}) {
            Check.good(1, "struct s{if 1" + a + "2:pad 1;}");
            for (String b : new String[] {"=", "<", ">"}) {
                Check.fault(2, "struct s{if 1" + a + "2^" + b + "3:pad 1;}");
                Check.good(1, "struct s{if (1" + a + "2)" + b + "3:pad 1;}");
            }
        }
        Check.says("factor: ( - | not ) factor | NUMBER | NAME | here | left | begin | '(' expr ')'");
        for (String sign : new String[] {"+", "*", "/", "%", "&", "=", "<", ">", "and ", "or ", ")", "]", ":", ";"}) {
            Check.fault(2, "struct s{if ^" + sign + "1:pad 1;}");
            Check.fault(2, "struct s{if 1+^" + sign + "1:pad 1;}");
            Check.fault(2, "struct s{if (^" + sign + "1:pad 1;}");
            Check.fault(2, "struct s{if not ^" + sign + "1:pad 1;}");
        }
        Check.fault(2, "struct s{if 1^(1):pad 1;}");
        Check.fault(2, "struct s{if (1)^(1):pad 1;}");
        Check.fault(2, "struct s{if (^):pad 1;}");
        Check.fault(2, "struct s{if here ^here:pad 1;}");
    }

    private static void namesBehindIs() {
        Check.says("behind is: an enum's; 4 a NAME that was not told as is wanted");
        Check.good(1, "enum e{a=1}struct s{u1 a is e;}");
        Check.good(1, "enum f{a=1}enum e{b=1}struct s{u1 a is e;u1 b is f;}");
        Check.fault(4, "struct s{u1 a is ^e;}enum e{a=1}");
        Check.fault(4, "struct t{}struct s{u1 a is ^t;}");
        Check.fault(4, "struct s{u1 a is ^s;}");
        Check.fault(4, "enum e{b=1}struct s{u1 a is ^b;}");
        Check.fault(4, "struct s{u1 b;u1 a is ^b;}");
    }

    private static void namesOfStructures() {
        Check.says("NAME NAME: a structure that ended before; of a case, behind else: such a structure");
        for (String form : new String[] {"^? a;", "^? a[2];", "union a by 1{1:^?;};", "union a by 1{1:t;-2:^?;};",
            "union a by 1{1:t;else ^?;};", "if 1:^? a;"}) {
            Check.good(2, "struct t{u1 v;}struct s{" + form.replace("^?", "t") + "}");
            Check.fault(4, "struct t{u1 v;}struct s{" + form.replace("?", "s") + "}");
            Check.fault(4, "struct t{u1 v;}struct s{" + form.replace("?", "q") + "}");
            Check.fault(4, "struct t{u1 v;}struct s{" + form.replace("?", "q") + "}struct q{}");
            Check.fault(4, "struct t{u1 v;}enum q{a=1}struct s{" + form.replace("?", "q") + "}");
            Check.fault(4, "struct t{u1 v;}struct s{u1 q;" + form.replace("?", "q") + "}");
            Check.fault(4, "struct t{u1 v;}struct s{" + form.replace("?", "v") + "}");
        }
    }

    private static void namesOfPointers() {
        Check.says("to NAME NAME: any structure of the description (also one told later, or itself)");
        Check.good(1, "struct s{to s a by u1;}");
        Check.good(2, "struct t{}struct s{to t a by u1;}");
        Check.good(2, "struct s{to t a by u1;}struct t{}");
        Check.says("4 (to NAME: found at the end of the text, of several the first one in it, behind all other FAULTS)");
        Check.fault(4, "struct s{to ^t a by u1;}");
        Check.fault(4, "struct s{to ^a a by u1;}");
        Check.fault(4, "enum e{a=1}struct s{to ^e a by u1;}");
        Check.fault(4, "struct s{to ^e a by u1;}enum e{a=1}");
        Check.fault(4, "struct s{to s a by u1;to ^t b by u1;to q c by u1;}struct r{to v a by u1;}");
        Check.fault(4, "struct s{to q a by u1;}struct r{to ^v a by u1;}struct q{to w a by u1;}");
        Check.fault(1, "struct s{to t a by u1;}^?");
        Check.fault(2, "struct s{to t a by u1;}^}");
        Check.fault(2, "struct s{to t a by u1;}struct q{^");
        Check.fault(3, "struct s{to t a by u1;}struct ^s{}");
        Check.fault(3, "struct s{to t a by u1;u1 ^a;}");
        Check.fault(4, "struct s{to t a by u1;^q b;}");
        Check.fault(5, "struct s{to t a by u1;pad ^65;}");
        Check.fault(6, "struct t{}struct s{to q a by u1;t b[^];}");
    }

    private static void namesInExprs() {
        Check.says("in expr: a field told before in the same structure that is a WHOLE without array, a sum or a pointer, or a "
                + "part of bits told before in it");
        String[] exprs = {"u1 z[^?];", "text z[^?];", "if ^?:u1 z;", "union z by ^?{1:t;};", "to t z by u1 from ^?;",
            "sum add u1 z of ^?,0;", "sum add u1 z of 0,^?;", "t z[1+^?];", "t z[-(2*^?)];"};
        boolean[] wanted = {true, true, false, false, false, false, false, false, true, true, false, false, false, true, false,
            true};
        for (String expr : exprs) {
            for (int f = 0; f < FIELDS.length; f++) {
                String field = FIELDS[f].replace("#", "n").replace("@", "y");
                if (wanted[f]) {
                    Check.good(2, TOLD + "struct s{" + field + expr.replace("^?", "n") + "}");
                } else {
                    Check.fault(4, TOLD + "struct s{" + field + expr.replace("?", "n") + "}");
                }
                Check.fault(4, TOLD + "struct s{" + expr.replace("?", "n") + field + "}");
                Check.fault(4, TOLD + "struct q{" + field + "}struct s{" + expr.replace("?", "n") + "}");
            }
            // its own NAME is not one told before, nor are an enum's, a pair's, a structure's, a field's of another one
            for (String other : new String[] {"z", "e", "a", "t", "v", "s"}) {
                Check.fault(4, TOLD + "struct s{" + expr.replace("?", other) + "}");
            }
        }
        Check.fault(4, "struct s{if ^p:bits u1 b{p:1};}");
    }

    private static void namesToldAlready() {
        Check.says("3 a NAME that was told already: in a structure of a field or part");
        for (String a : FIELDS) {
            for (String b : FIELDS) {
                String first = a.replace("#", "n").replace("@", "y");
                Check.fault(3, TOLD + "struct s{" + first + b.replace("#", "^n").replace("@", "z") + "}");
                Check.good(2, TOLD + "struct s{" + first + b.replace("#", "m").replace("@", "z") + "}");
                Check.good(3, TOLD + "struct q{" + first + "}struct s{" + b.replace("#", "n").replace("@", "z") + "}");
            }
        }
        Check.fault(3, "struct s{bits u1 b{^b:1};}");
        Check.fault(3, "struct s{bits u1 b{p:1,^p:1};}");
        Check.fault(3, "struct s{bits u1 b{p:1,q:1,^p:1};}");
        Check.good(2, "enum e{a=1}struct t{}struct s{u1 s;u1 t;u1 e;u1 a;}");
        Check.says("3 a NAME that was told already: of an enum or structure (by either)");
        Check.fault(3, "enum e{a=1}enum ^e{a=1}");
        Check.fault(3, "enum e{a=1}struct ^e{}");
        Check.fault(3, "struct e{}enum ^e{a=1}");
        Check.fault(3, "struct e{}struct ^e{}");
        Check.fault(3, "struct e{}struct f{}enum g{a=1}struct ^e{}");
        Check.fault(3, "enum g{a=1}enum h{a=1}struct e{}struct f{}enum ^g{a=1}");
        Check.says("3 a NAME that was told already: in an enum of a pair");
        Check.fault(3, "enum e{a=1,^a=1}");
        Check.fault(3, "enum e{a=1,b=1,^a=2}");
        Check.good(0, "enum e{e=1,f=1}enum f{e=1,f=2}");
    }

    private static void wrongBounds() {
        Check.says("wrong: The FAULT of the latest text that was read (by describe, evaluate); 0: it had none, or there was none.");
        OverlayViewer x = Check.viewer("struct s{u1 a;}", 1);
        Check.due("none", x.wrong(), 0);
        x.lay(0, 0, 0);
        Check.due("a fault", Check.describe(x, "#"), -10);
        Check.due("wrong", x.wrong(), 1);
        Check.due("find is not asked", Check.find(x, 0, "a"), 1);
        Check.due("wrong", x.wrong(), 1);
        Check.due("evaluate refused", x.evaluate(0, 1), Check.KIND);
        Check.due("evaluate refused", x.evaluate(1, 0), Check.NONE);
        Check.due("wrong", x.wrong(), 1);
        Check.due("evaluate", Check.evaluate(x, 0, 0, "b"), -10);
        Check.due("wrong", x.wrong(), 4);
        Check.due("evaluate fails", Check.evaluate(x, 0, 0, "a/0"), Check.RANGE);
        Check.due("it had no fault", x.wrong(), 0);
        Check.due("a fault", Check.describe(x, "struct s{u1 a;u1 a;}"), -27);
        Check.due("wrong", x.wrong(), 3);
        Check.due("evaluate", Check.evaluate(x, 0, 0, "a"), 0);
        Check.due("wrong", x.wrong(), 0);
        Check.due("a fault", Check.evaluate(x, 0, 0, "a)"), -11);
        Check.due("describe", Check.describe(x, "enum e{a=1}"), 0);
        Check.due("wrong", x.wrong(), 0);
    }

    private static void describeBounds() {
        Check.says("describe: how many structures it has (0, with enums alone, too); -10 less the PLACE of its FAULT.");
        Check.good(0, "enum e{a=1}");
        Check.good(0, "enum e{a=1}enum f{a=1}");
        Check.good(1, "enum e{a=1}struct s{}");
        Check.good(1, "struct s{}enum e{a=1}");
        OverlayViewer x = new OverlayViewer();
        Check.due("an empty tape", x.describe(), -10);
        Check.due("wrong", x.wrong(), 2);
        Check.due("the first byte", Check.describe(x, "#"), -10);
        Check.due("the second byte", Check.describe(x, " #"), -11);
        Check.due("the end", Check.describe(x, "struct s{} "), 1);
        Check.due("the end", Check.describe(x, "struct s{ "), -20);
    }

    private static void takesThePlace() {
        Check.says("A description that is read takes the place of the one before; all TREES are gone then.");
        OverlayViewer x = Check.viewer("enum e{a=1}enum f{b=1}struct s{u1 a;}struct t{to s a by u1;u4 b[2];}", 1, 2);
        x.lay(0, 0, 0);
        x.lay(0, 1, 0);
        Check.due("a text with a fault is none", Check.describe(x, "struct q{u2 a;}struct"), -31);
        Check.due("structures", x.count(2), 2);
        Check.due("enums", x.count(3), 2);
        Check.due("trees", x.count(4), 2);
        Check.due("size", x.size(1), 9);
        Check.due("uses", x.uses(1, 0), 1);
        Check.due("its names", Check.evaluate(x, 0, 0, "a"), 0);
        Check.due("another", Check.describe(x, "struct q{u2 a;}struct r{u1 b;}struct u{}"), 3);
        Check.due("structures", x.count(2), 3);
        Check.due("enums", x.count(3), 0);
        Check.due("trees", x.count(4), 0);
        Check.due("nodes", x.count(5), 0);
        Check.due("no tree", x.node(0, 0, 0), Check.NONE);
        Check.due("nothing to clear", x.clear(), 0);
        Check.due("size", x.size(1), 1);
        Check.due("uses", x.uses(1, 0), 0);
        Check.due("the first tree", x.lay(0, 0, 0), 0);
        Check.due("the same one once more", Check.describe(x, "struct q{u2 a;}"), 1);
        Check.due("trees", x.count(4), 0);
        Check.due("NAMES are free again", Check.describe(x, "enum q{a=1}struct s{}struct e{}"), 2);
    }
}
