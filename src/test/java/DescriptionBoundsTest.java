/** Part 2 of the document and promises 16, 17: how much there may be, FAULTS 5 and 6, SIZE, uses; each bound that is named. */
public final class DescriptionBoundsTest {
    /** The greatest NUMBERS that there are. */
    private static final String[] GREAT = {"999999999", "0x80000000", "0x7fffffff", "0xffffffff"};

    public static void main(String[] args) {
        structures();
        fields();
        enums();
        pairs();
        parts();
        cases();
        magicBytes();
        leastOfOneToken();
        firstTokenWithOne();
        partNumbers();
        bitsOfTheWhole();
        untilNumbers();
        byteNumbers();
        padNumbers();
        timesNumbers();
        freeNumbers();
        nestsOfEach();
        nestsMixed();
        nestsEnd();
        nestsOfEachExpr();
        arraysWithoutExpr();
        sizeOfEach();
        sizeHasNoIf();
        sizeOfTextsAndArrays();
        sizeOfStructuresWithin();
        sizeOfUnions();
        sizeOfPads();
        sizeAboveAMillion();
        sizeRefuses();
        usesDirectly();
        usesByWay();
        usesOfTwenty();
        Check.end();
    }

    private static String list(int n, String piece, String between) {
        String all = Check.times(n, piece + between);
        return all.substring(0, all.length() - between.length());
    }

    private static void structures() {
        Check.says("STRUCTURES are numbered from 0 on, in their order, 20 at most; 5 too much: a structure (at that word)");
        Check.good(1, "struct a{}");
        Check.good(19, Check.times(19, "struct a#{}"));
        Check.good(20, Check.times(20, "struct a#{}"));
        Check.good(20, Check.times(20, "struct a#{}") + "enum e{a=1}");
        Check.fault(5, Check.times(20, "struct a#{}") + "^struct b{}");
        Check.fault(5, Check.times(20, "struct a#{}") + "enum e{a=1} ^struct b{}");
        Check.fault(5, Check.times(20, "struct a#{}") + "^struct");
        OverlayViewer x = Check.viewer(list(20, "struct a#{text t[#];}", " "));
        for (int s = 0; s < 20; s++) {
            Check.due("size(" + s + ")", x.size(s), s);
        }
        Check.due("size(20)", x.size(20), Check.NONE);
        Check.due("size(-1)", x.size(-1), Check.NONE);
    }

    private static void fields() {
        Check.says("with 14 fields at most; 5 too much: field (at its first TOKEN)");
        Check.good(1, "struct s{}");
        Check.good(1, "struct s{" + Check.times(13, "u1 a#;") + "}");
        Check.good(1, "struct s{" + Check.times(14, "u1 a#;") + "}");
        for (String field : new String[] {"u1 b;", "t b;", "t b[];", "bits u1 b{p:1};", "text b[1];", "union b by 1{1:t;};",
            "to t b by u1;", "pad 1;", "magic b=1;", "sum add u1 b of 0,0;", "if 1:u1 b;", "if"}) {
            Check.fault(5, "struct t{u1 v;}struct s{" + Check.times(14, "u1 a#;") + "^" + field + "}");
            Check.fault(5, "struct t{u1 v;}struct s{" + Check.times(14, "pad 1;") + " ^" + field + "}");
        }
        Check.good(2, "struct t{u1 v;}struct s{" + Check.times(13, "if 1:u1 a#;") + "t b;}");
        Check.good(2, "struct q{" + Check.times(14, "u1 a#;") + "}struct s{" + Check.times(14, "u1 a#;") + "}");
        OverlayViewer x = Check.laid("struct s{" + Check.times(14, "u1 a#;") + "}", 1, 2, 3, 4, 5, 6, 7, 8, 9, 10, 11, 12, 13, 14);
        Check.due("all are laid", x.faults(0, 2), 15);
        Check.due("the first", Check.worked(x, "a0"), 1);
        Check.due("the last", Check.worked(x, "a13"), 14);
    }

    private static void enums() {
        Check.says("8 enums at most; 5 too much: enum (at that word)");
        Check.good(0, Check.times(8, "enum e#{a=1}"));
        Check.fault(5, Check.times(8, "enum e#{a=1}") + "^enum f{a=1}");
        Check.fault(5, Check.times(8, "enum e#{a=1}") + "struct s{} ^enum");
        OverlayViewer x = Check.laid(Check.times(8, "enum e#{a#=#}") + "struct s{u1 a is e7;u1 b is e0;}", 7, 0);
        Check.due("count(3)", x.count(3), 8);
        Check.due("a pair of the last", Check.name(x, 0, 1, 1), "a7");
        Check.due("a pair of the first", Check.name(x, 0, 2, 1), "a0");
    }

    private static void pairs() {
        Check.says("with 10 pairs at most; 5 too much: pair (at its NAME)");
        Check.good(0, "enum e{a=1}");
        Check.good(0, "enum e{" + list(10, "a#=#", ",") + "}");
        Check.fault(5, "enum e{" + list(10, "a#=#", ",") + ", ^b=1}");
        Check.fault(5, "enum e{" + list(10, "a#=#", ",") + ",^b");
        Check.good(0, Check.times(8, "enum e#{a=1,b=2,c=3,d=4,e=5,f=6,g=7,h=8,i=9,j=10}"));
        OverlayViewer x = Check.laid("enum f{z=9}enum e{" + list(10, "a#=#", ",") + "}struct s{u1 a is e;u1 b is e;u1 c is e;}",
                9, 0, 10);
        Check.due("the last one", Check.name(x, 0, 1, 1), "a9");
        Check.due("the first one", Check.name(x, 0, 2, 1), "a0");
        Check.due("faults", Check.faults(x, 0), "0 0 0 4");
        // the pairs of an enum are its own alone, not those told ahead of it or behind
        OverlayViewer y = Check.laid("enum d{w=3}enum e{a=1}enum f{b=2}struct s{u1 a is e;u1 b is e;u1 c is e;u1 d is f;magic m=4;u1 g is f;}",
                1, 2, 3, 2, 4, 4);
        Check.due("faults", Check.faults(y, 0), "0 0 4 4 0 0 4");
        Check.due("no pair", y.letter(0, 2, 1, 0), Check.NONE);
    }

    private static void parts() {
        Check.says("12 parts at most; 5 too much: part (at its NAME)");
        Check.good(1, "struct s{bits u2 b{p:1};}");
        Check.good(1, "struct s{bits u2 b{" + list(12, "p#:1", ",") + "};}");
        Check.fault(5, "struct s{bits u2 b{" + list(12, "p#:1", ",") + ", ^q:1};}");
        Check.fault(5, "struct s{bits u2 b{" + list(12, "p#:1", ",") + ",^q");
        Check.good(1, "struct s{bits u2 b{" + list(12, "p#:1", ",") + "};bits u2 c{" + list(12, "q#:1", ",") + "};}");
        OverlayViewer x = Check.laid("struct s{u1 a;bits u2 b{" + list(12, "p#:1", ",") + "};u1 c;}", 1, 0, 8, 3);
        Check.due("the last one", Check.worked(x, "p11"), 1);
        Check.due("the one ahead", Check.worked(x, "p10"), 0);
        Check.due("the first one", Check.worked(x, "p0"), 0);
        Check.due("the field behind", Check.worked(x, "c"), 3);
        Check.due("the field ahead", Check.worked(x, "a"), 1);
        OverlayViewer y = Check.laid("struct s{bits u1 a{p:4};bits u1 b{q:4,r:4};bits u1 c{t:8};}", 1, 0x32, 4);
        Check.due("parts of several", Check.worked(y, "p*1000+q*100+r*10+t"), 1234);
    }

    private static void cases() {
        Check.says("8 cases at most; 5 too much: case (at its NUMBER or -)");
        Check.good(2, "struct t{}struct s{union u by 1{1:t;};}");
        Check.good(2, "struct t{}struct s{union u by 1{" + Check.times(8, "#:t;") + "};}");
        Check.good(2, "struct t{}struct s{union u by 1{" + Check.times(8, "-#:t;") + "else t;};}");
        Check.fault(5, "struct t{}struct s{union u by 1{" + Check.times(8, "#:t;") + " ^8:t;};}");
        Check.fault(5, "struct t{}struct s{union u by 1{" + Check.times(8, "#:t;") + "^-8:t;};}");
        Check.fault(5, "struct t{}struct s{union u by 1{" + Check.times(8, "-#:t;") + "^8");
        Check.fault(5, "struct t{}struct s{union u by 1{" + Check.times(8, "-#:t;") + "^-");
        Check.good(2, "struct t{}struct s{union u by 1{" + Check.times(8, "#:t;") + "};union v by 1{" + Check.times(8, "#:t;") + "};}");
        OverlayViewer x = Check.laid("struct q{}struct t{}struct s{union u by 7{" + Check.times(7, "#:q;") + "7:t;};}");
        Check.due("the last one", x.node(0, 2, 7), 1);
        OverlayViewer y = Check.laid("struct t{}struct s{union u by 2{1:t;};union v by 1{2:t;};magic m=3;union w by 3{4:t;};}", 3);
        Check.due("the cases of a union are its own alone", Check.faults(y, 0), "0 7 7 0 7");
    }

    private static void magicBytes() {
        Check.says("16 bytes of a magic at most; 5 too much: byte");
        Check.good(1, "struct s{magic m=1;}");
        Check.good(1, "struct s{magic m=" + Check.times(16, "# ") + ";}");
        Check.good(1, "struct s{magic m=" + "*".repeat(16) + ";}");
        Check.fault(5, "struct s{magic m=" + Check.times(16, "# ") + "^1;}");
        Check.fault(5, "struct s{magic m=" + Check.times(16, "# ") + "^*;}");
        Check.fault(5, "struct s{magic m=" + "*".repeat(16) + " ^256");
        Check.good(1, "struct s{magic m=" + "*".repeat(16) + ";magic n=" + "1 ".repeat(16) + ";}");
    }

    private static void leastOfOneToken() {
        Check.says("FAULTS, of one TOKEN the least");
        String twenty = Check.times(20, "struct a#{}");
        String full = "struct s{" + Check.times(14, "pad 1;");
        String pairs = "enum e{" + list(10, "a#=#", ",") + ",";
        String parts = "struct s{bits u2 b{" + list(12, "p#:1", ",") + ",";
        String cases = "struct t{}struct s{union u by 1{" + Check.times(8, "#:t;");
        String bytes = "struct s{magic m=" + "*".repeat(16);
        // 1 ahead of 5, 2 ahead of 5
        Check.fault(1, twenty + "^#");
        Check.fault(2, twenty + "^a");
        Check.fault(1, full + "^#");
        Check.fault(2, full + "^1");
        Check.fault(2, full + "^until");
        Check.fault(1, pairs + "^#");
        Check.fault(2, pairs + "^1");
        Check.fault(1, parts + "^#");
        Check.fault(2, parts + "^if");
        Check.fault(1, cases + "^#");
        Check.fault(2, cases + "^*");
        Check.fault(1, bytes + "^#");
        Check.fault(2, bytes + "^-");
        // 3 ahead of 5
        Check.fault(3, pairs + "^a0=1}");
        Check.fault(3, pairs + "^a9=1}");
        Check.fault(3, parts + "^p0:1};}");
        Check.fault(3, parts + "^p11:1};}");
        Check.fault(3, parts + "^b:1};}");
        // 4 ahead of 5
        Check.fault(4, full + "^t b;}");
        Check.fault(4, full + "^s b;}");
    }

    private static void firstTokenWithOne() {
        Check.says("FAULTS, the first TOKEN with one");
        Check.fault(5, "struct s{pad ^65;u1 #;}");
        Check.fault(4, "struct s{^t a;pad 65;}");
        Check.fault(3, "struct s{u1 a;u1 ^a;#}");
        Check.fault(6, "struct t{}struct s{t a[^];u1 a;}");
        Check.fault(1, "struct s{u1 a^#;pad 65;u1 a;}");
        Check.fault(2, "struct s{u1 a^]#;}");
    }

    private static void partNumbers() {
        Check.says("5 a NUMBER: of a part not 1 .. 64");
        Check.good(1, "struct s{bits u8 b{p:1};}");
        Check.good(1, "struct s{bits u8 b{p:64};}");
        Check.good(1, "struct s{bits u8 b{p:0x40};}");
        Check.good(1, "struct s{bits u8 b{p:63,q:1};}");
        Check.fault(5, "struct s{bits u8 b{p:^0};}");
        Check.fault(5, "struct s{bits u8 b{p:^65};}");
        Check.fault(5, "struct s{bits u8 b{p:1,q:^0};}");
        for (String great : GREAT) {
            Check.fault(5, "struct s{bits u8 b{p:^" + great + "};}");
            Check.fault(5, "struct s{bits u8 b{p:1,q:^" + great + "};}");
        }
        Check.fault(2, "struct s{bits u8 b{p:^-1};}");
    }

    private static void bitsOfTheWhole() {
        Check.says("5 a NUMBER: with which the parts have more bits than the WHOLE");
        for (int width = 1; width <= 8; width++) {
            for (String type : new String[] {"u" + width, "s" + width, "u" + width + "b", "s" + width + "b"}) {
                int all = 8 * width;
                Check.good(1, "struct s{bits " + type + " b{p:" + all + "};}");
                Check.fault(5, "struct s{bits " + type + " b{p:^" + (all + 1) + "};}");
                Check.good(1, "struct s{bits " + type + " b{p:" + (all - 1) + ",q:1};}");
                Check.fault(5, "struct s{bits " + type + " b{p:" + (all - 1) + ",q:^2};}");
                Check.fault(5, "struct s{bits " + type + " b{p:" + all + ",q:^1};}");
                Check.fault(5, "struct s{bits " + type + " b{p:1,q:1,r:^" + (all - 1) + "};}");
                Check.good(1, "struct s{bits " + type + " b{p:1,q:1,r:" + (all - 2) + "};}");
            }
        }
        Check.good(1, "struct s{bits u1 b{p:8};bits u1 c{q:8};}");
    }

    private static void untilNumbers() {
        Check.says("5 a NUMBER: behind until above 255");
        Check.good(1, "struct s{text t until 0;text w until 255;text v until 0xff;}");
        Check.fault(5, "struct s{text t until ^256;}");
        Check.fault(2, "struct s{text t until ^-1;}");
        for (String great : GREAT) {
            Check.fault(5, "struct s{text t until ^" + great + ";}");
        }
    }

    private static void byteNumbers() {
        Check.says("5 a NUMBER: of a byte above 255");
        Check.good(1, "struct s{magic m=0 255 0x00 0xff;}");
        Check.fault(5, "struct s{magic m=^256;}");
        Check.fault(5, "struct s{magic m=0 * ^256;}");
        for (String great : GREAT) {
            Check.fault(5, "struct s{magic m=1 ^" + great + ";}");
        }
    }

    private static void padNumbers() {
        Check.says("5 a NUMBER: behind pad not 1 .. 64");
        Check.good(1, "struct s{pad 1;pad 64;}");
        Check.fault(5, "struct s{pad ^0;}");
        Check.fault(5, "struct s{pad ^65;}");
        for (String great : GREAT) {
            Check.fault(5, "struct s{pad ^" + great + ";}");
        }
    }

    private static void timesNumbers() {
        Check.says("5 a NUMBER: behind times not 1 .. 4096");
        Check.good(1, "struct s{to s a by u1 times 1;to s b by u1 times 4096;to s c by u1 from 1 times 4096;}");
        Check.fault(5, "struct s{to s a by u1 times ^0;}");
        Check.fault(5, "struct s{to s a by u1 times ^4097;}");
        Check.fault(5, "struct s{to s a by u1 from 1 times ^4097;}");
        for (String great : GREAT) {
            Check.fault(5, "struct s{to s a by u1 times ^" + great + ";}");
        }
    }

    private static void freeNumbers() {
        Check.says("pair: NAME = [ - ] NUMBER; case: [ - ] NUMBER : NAME ; factor: NUMBER");
        for (String great : GREAT) {
            Check.good(1, "enum e{a=" + great + ",b=-" + great + "}struct s{u1 a is e;}");
            Check.good(2, "struct t{}struct s{union u by " + great + "{" + great + ":t;-" + great + ":t;};}");
            Check.good(1, "struct s{u1 a[" + great + "];text t[" + great + "];if " + great + ":u1 b;}");
        }
    }

    private static void nestsOfEach() {
        Check.says("5 a ( , - or not of an expr within 15 others of these");
        for (String opens : new String[] {"(", "-", "not ", "- ", "( "}) {
            String closes = opens.charAt(0) == '(' ? ")" : "";
            for (int n = 1; n <= 15; n++) {
                Check.good(1, "struct s{u1 a[" + opens.repeat(n) + "1" + closes.repeat(n) + "];}");
            }
            for (String last : new String[] {"(", "-", "not "}) {
                Check.fault(5, "struct s{u1 a[" + opens.repeat(15) + "^" + last + "1" + closes.repeat(15) + "];}");
                Check.good(1, "struct s{u1 a[" + opens.repeat(14) + last + "1" + (last.equals("(") ? ")" : "") + closes.repeat(14) + "];}");
            }
            Check.fault(2, "struct s{u1 a[" + opens.repeat(15) + "^)];}");
            Check.fault(4, "struct s{u1 a[" + opens.repeat(15) + "^b];}");
            Check.fault(1, "struct s{u1 a[" + opens.repeat(15) + "^#];}");
        }
    }

    private static void nestsMixed() {
        Check.says("5 a ( , - or not of an expr within 15 others of these");
        Check.good(1, "struct s{u1 a[" + "(-not ".repeat(5) + "1" + ")".repeat(5) + "];}");
        Check.fault(5, "struct s{u1 a[" + "(-not ".repeat(5) + "^(1)" + ")".repeat(5) + "];}");
        Check.fault(5, "struct s{u1 a[" + "(-not ".repeat(5) + "^-1" + ")".repeat(5) + "];}");
        Check.fault(5, "struct s{u1 a[" + "1+(2*".repeat(15) + "^(1)" + ")".repeat(15) + "];}");
        Check.good(1, "struct s{u1 a[" + "1+(2*".repeat(15) + "1" + ")".repeat(15) + "];}");
        Check.good(1, "struct s{u1 a[" + "(1 or 1 and 1=1+1*".repeat(15) + "1" + ")".repeat(15) + "];}");
        Check.says("(the - between two terms is none of these)");
        Check.good(1, "struct s{u1 a[" + "(".repeat(15) + "1-1-1" + ")".repeat(15) + "];}");
        Check.good(1, "struct s{u1 a[" + "1-".repeat(40) + "1];}");
        Check.fault(5, "struct s{u1 a[" + "(".repeat(15) + "1-^-1" + ")".repeat(15) + "];}");
    }

    private static void nestsEnd() {
        Check.says("(each up to its end)");
        String deep = "(".repeat(15) + "1" + ")".repeat(15);
        Check.good(1, "struct s{u1 a[" + deep + "+" + deep + "*" + deep + "];}");
        Check.good(1, "struct s{u1 a[" + "(".repeat(14) + "(1)+(1)*(1)" + ")".repeat(14) + "];}");
        Check.good(1, "struct s{u1 a[" + "(".repeat(14) + "-1+-1*-1" + ")".repeat(14) + "];}");
        Check.good(1, "struct s{u1 a[" + "(".repeat(14) + "not 1=not 1 and not 1" + ")".repeat(14) + "];}");
        // a - ends with its factor, so what stands behind that is not within it
        Check.good(1, "struct s{u1 a[-1+" + deep + "];}");
        Check.good(1, "struct s{u1 a[-1*" + deep + "];}");
        Check.good(1, "struct s{u1 a[not 1*" + deep + "];}");
        Check.good(1, "struct s{u1 a[-(1)*" + deep + "];}");
        Check.fault(5, "struct s{u1 a[-" + "(".repeat(14) + "^(1];}");
        Check.fault(5, "struct s{u1 a[" + deep + "+" + "(".repeat(15) + "^(1];}");
        OverlayViewer x = Check.laid("struct s{}");
        Check.due("15 in evaluate", Check.worked(x, "-".repeat(15) + "1"), -1);
        Check.due("16 in evaluate", Check.evaluate(x, 0, 0, "-".repeat(16) + "1"), -25);
        Check.due("wrong", x.wrong(), 5);
        Check.due("15 twice", Check.worked(x, deep + "+" + deep), 2);
        Check.due("what waits in each nest", Check.worked(x, "(0 or 1 and 0=1+1*".repeat(15) + "1" + ")".repeat(15)), 0);
        Check.due("what waits in each nest", Check.worked(x, "(0 or 1 and 0<1+1*".repeat(15) + "1" + ")".repeat(15)), 1);
        Check.due("what waits within and without", Check.worked(x, "0 or 1 and 0<1+1*(".repeat(15) + "0 or 1 and 0<1+1*1" + ")".repeat(15)), 1);
        Check.due("what waits within and without", Check.worked(x, "0 or 1 and 2=1+1*(".repeat(15) + "0 or 1 and 2=1+1*1" + ")".repeat(15)), 1);
    }

    private static void nestsOfEachExpr() {
        Check.says("5 a ( , - or not of an expr within 15 others of these");
        String good = "(".repeat(15) + "1" + ")".repeat(15);
        String bad = "(".repeat(15) + "^(1))" + ")".repeat(15);
        for (String field : new String[] {"if @:u1 a;", "u1 a[@];", "t a[@];", "text a[@];", "union a by @{1:t;};",
            "to t a by u1 from @;", "sum add u1 a of @,0;", "sum add u1 a of 0,@;", "sum add u1 a of @,@;"}) {
            Check.good(2, "struct t{u1 v;}struct s{" + field.replace("@", good) + "}");
            Check.fault(5, "struct t{u1 v;}struct s{" + field.replaceFirst("@", bad).replace("@", "1") + "}");
        }
    }

    private static void arraysWithoutExpr() {
        Check.says("6 the ] of an array without expr, of a structure that has no SIZE, or SIZE 0.");
        for (String type : new String[] {"u1", "s8b"}) {
            Check.good(1, "struct s{" + type + " a[];}");
        }
        Check.good(2, "struct t{u1 v;}struct s{t a[];}");
        Check.good(2, "struct t{text v[1];}struct s{t a[ ];}");
        for (String fields : new String[] {"", "text v[0];", "u8 v[0];", "pad 4;", "u1 v[];", "if 1:u1 v;", "text v until 0;",
            "u1 v[1+0];", "u1 v[201];", "text v[2001];"}) {
            Check.fault(6, "struct t{" + fields + "}struct s{t a[^];}");
            Check.fault(6, "struct t{" + fields + "}struct s{t a[ \n^];}");
            Check.good(2, "struct t{" + fields + "}struct s{t a[1];}");
            Check.good(2, "struct t{" + fields + "}struct s{t a;}");
        }
        String million = "struct t{u8 a[125];}struct q{t a[200];}struct r{q a[5];";
        Check.good(4, million + "}struct s{r a[];}");
        Check.fault(6, million + "u1 b;}struct s{r a[^];}");
    }

    private static void size(int due, String text) {
        OverlayViewer x = new OverlayViewer();
        int structures = Check.describe(x, text);
        Check.due("size of " + text, x.size(structures - 1), due);
    }

    private static void sizeOfEach() {
        Check.says("SIZE: it is how many BYTES it has then");
        size(0, "struct s{}");
        for (int width = 1; width <= 8; width++) {
            for (String type : new String[] {"u" + width, "s" + width + "b"}) {
                size(width, "struct s{" + type + " a;}");
                size(width, "enum e{a=1}struct s{" + type + " a is e;}");
                size(3 * width, "struct s{" + type + " a[3];}");
                size(width, "struct s{bits " + type + " a{p:1};}");
                size(width, "struct s{to s a by " + type + ";}");
                size(width, "struct s{to s a by " + type + " from 1/0 times 4;}");
                size(width, "struct s{sum add " + type + " a of 0,here;}");
            }
        }
        size(1, "struct s{magic m=1;}");
        size(16, "struct s{magic m=" + "*".repeat(16) + ";}");
        size(14, "struct s{" + Check.times(14, "u1 a#;") + "}");
    }

    private static void sizeHasNoIf() {
        Check.says("SIZE: a structure has one if none of its fields has an if");
        for (String field : new String[] {"u1 b;", "t b;", "t b[1];", "bits u1 b{p:1};", "text b[1];", "union b by 1{1:t;else t;};",
            "to t b by u1;", "pad 1;", "magic b=1;", "sum add u1 b of 0,0;"}) {
            size(field.equals("pad 1;") ? 3 : 4, "struct t{u1 v;}struct s{u1 a;u2 c;" + field + "}");
            size(Check.RANGE, "struct t{u1 v;}struct s{u1 a;u2 c;if 1:" + field + "}");
            size(Check.RANGE, "struct t{u1 v;}struct s{if 0:" + field + "u1 a;}");
        }
    }

    private static void sizeOfTextsAndArrays() {
        Check.says("SIZE: each text's and array's expr is a NUMBER alone, perhaps in ( ) (of a text at most 2000, of an array at "
                + "most 200), no text has until, no array is without expr");
        size(0, "struct s{text t[0];}");
        size(2000, "struct s{text t[2000];}");
        size(2000, "struct s{text t[(2000)];}");
        size(2000, "struct s{text t[0x7d0];}");
        size(Check.RANGE, "struct s{text t[2001];}");
        size(Check.RANGE, "struct s{text t[(2001)];}");
        size(Check.RANGE, "struct s{text t[0xffffffff];}");
        size(0, "struct s{u8 t[0];}");
        size(1600, "struct s{u8 t[200];}");
        size(1600, "struct s{u8 t[(200)];}");
        size(Check.RANGE, "struct s{u8 t[201];}");
        size(Check.RANGE, "struct s{u1 t[0xffffffff];}");
        size(400, "struct t{u2 v;}struct s{t a[200];}");
        size(Check.RANGE, "struct t{u2 v;}struct s{t a[201];}");
        size(Check.RANGE, "struct t{}struct s{t a[201];}");
        for (String expr : new String[] {"1+1", "2*1", "-1", "not 0", "here", "left", "begin", "(1)+1", "1=1", "(-1)", "--1", "n"}) {
            size(Check.RANGE, "struct s{u1 n;u1 a[" + expr + "];}");
            size(Check.RANGE, "struct s{u1 n;text a[" + expr + "];}");
        }
        size(Check.RANGE, "struct s{text t until 0;}");
        size(Check.RANGE, "struct s{u1 a[];}");
        size(Check.RANGE, "struct t{u1 v;}struct s{t a[];}");
    }

    private static void sizeOfStructuresWithin() {
        Check.says("SIZE: each structure in it (a pointer's is not) has one");
        size(6, "struct t{u3 v;}struct s{t a;t b;}");
        size(12, "struct t{u3 v;}struct s{t a;t b[3];}");
        size(9, "struct r{u3 v;}struct t{r v;}struct s{t a[3];}");
        for (String none : new String[] {"text v until 0;", "u1 v[];", "if 1:u1 v;", "u1 v[here];"}) {
            size(Check.RANGE, "struct t{" + none + "}struct s{t a;}");
            size(Check.RANGE, "struct t{" + none + "}struct s{t a[1];}");
            size(Check.RANGE, "struct t{" + none + "}struct s{t a[0];}");
            size(Check.RANGE, "struct t{" + none + "}struct q{t a;}struct s{q b;}");
            size(Check.RANGE, "struct t{" + none + "}struct s{union u by 1{1:t;else t;};}");
            size(2, "struct t{" + none + "}struct s{to t a by u2;}");
        }
        size(2, "struct s{to s a by u2;}");
    }

    private static void sizeOfUnions() {
        Check.says("SIZE: each union has else and structures of one SIZE");
        String told = "struct a{u2 v;}struct b{u1 v[2];}struct c{u3 v;}struct d{}struct e{text t until 0;}";
        size(2, told + "struct s{union u by 1{1:a;else a;};}");
        size(2, told + "struct s{union u by 1{1:a;2:b;3:a;else b;};}");
        size(0, told + "struct s{union u by 1{1:d;else d;};}");
        size(Check.RANGE, told + "struct s{union u by 1{1:a;};}");
        size(Check.RANGE, told + "struct s{union u by 1{1:a;2:b;};}");
        size(Check.RANGE, told + "struct s{union u by 1{1:d;};}");
        size(Check.RANGE, told + "struct s{union u by 1{1:a;else c;};}");
        size(Check.RANGE, told + "struct s{union u by 1{1:c;2:a;else a;};}");
        size(Check.RANGE, told + "struct s{union u by 1{1:a;2:c;else a;};}");
        size(Check.RANGE, told + "struct s{union u by 1{1:a;else d;};}");
        size(Check.RANGE, told + "struct s{union u by 1{1:e;else a;};}");
        size(Check.RANGE, told + "struct s{union u by 1{1:a;else e;};}");
        size(Check.RANGE, told + "struct s{union u by 1{1:e;else e;};}");
        size(7, told + "struct s{union u by 1{1:a;else b;};c z;union w by 1{1:a;else b;};}");
    }

    private static void sizeOfPads() {
        Check.says("SIZE: a pad from the structure's beginning on");
        size(0, "struct s{pad 1;pad 64;}");
        size(64, "struct s{u1 a;pad 64;}");
        size(64, "struct s{text a[64];pad 64;}");
        size(128, "struct s{text a[65];pad 64;}");
        size(1, "struct s{u1 a;pad 1;}");
        size(6, "struct s{u1 a;pad 2;u1 b;pad 2;u1 c;pad 3;}");
        // the pad of a structure within counts from where that one begins
        size(5, "struct t{u1 a;pad 4;}struct s{u1 a;t b;}");
        size(13, "struct t{u1 a;pad 4;}struct s{u1 a;t b[3];}");
        size(16, "struct t{u1 a;pad 4;}struct s{u1 a;t b[3];pad 8;}");
    }

    private static void sizeAboveAMillion() {
        Check.says("SIZE: above 1000000 it has none");
        String told = "struct t{u8 a[125];}struct q{t a[200];}";
        size(200000, told);
        size(1000000, told + "struct s{q a[5];}");
        size(999999, told + "struct r{t a[199];}struct s{q a[4];r b;text t[999];}");
        size(1000000, told + "struct r{t a[199];}struct s{q a[4];r b;text t[1000];}");
        size(Check.RANGE, told + "struct r{t a[199];}struct s{q a[4];r b;text t[1001];}");
        size(Check.RANGE, told + "struct s{q a[5];u1 b;}");
        size(Check.RANGE, told + "struct s{q a[200];}");
        size(Check.RANGE, told + "struct s{q a[5];u1 b;}struct r{s a;}");
        size(Check.RANGE, told + "struct s{q a[5];u1 b;}struct r{s a[0];}");
        size(Check.RANGE, told + "struct s{" + Check.times(14, "q a#[200];") + "}");
        size(Check.RANGE, told + "struct r{q a[5];}struct s{" + Check.times(14, "r a#[200];") + "}");
        size(2, told + "struct s{q a[5];u1 b;}struct r{to s a by u2;}");
    }

    private static void sizeRefuses() {
        Check.says("size: RANGE: it has none. NONE.");
        OverlayViewer x = Check.viewer("struct s{u1 a;}struct t{u1 a[];}");
        Check.due("size(0)", x.size(0), 1);
        Check.due("size(1)", x.size(1), Check.RANGE);
        Check.due("size(2)", x.size(2), Check.NONE);
        Check.due("size(-1)", x.size(-1), Check.NONE);
        for (int s : Check.FAR) {
            Check.due("size(" + s + ")", x.size(s), Check.NONE);
        }
        OverlayViewer y = Check.viewer("enum e{a=1}");
        Check.due("enums alone", y.size(0), Check.NONE);
    }

    private static void uses(String text, String... due) {
        OverlayViewer x = Check.viewer(text);
        Check.due("structures of " + text, x.count(2), due.length);
        for (int s = 0; s < due.length; s++) {
            for (int o = 0; o < due.length; o++) {
                Check.due("uses(" + s + ", " + o + ") of " + text, x.uses(s, o), due[s].charAt(o) - '0');
            }
        }
    }

    private static void usesDirectly() {
        Check.says("uses: Whether a structure has a field, case, else or pointer of another one (or of itself): 1, 0.");
        uses("struct a{}", "0");
        uses("struct a{u1 x;text t[2];magic m=1;pad 4;bits u1 b{p:1};sum add u1 c of 0,0;}struct b{}", "00", "00");
        uses("struct a{}struct b{a x;}", "00", "10");
        uses("struct a{u1 v;}struct b{a x[2];}struct c{a x[];}", "000", "100", "100");
        uses("struct a{}struct z{}struct b{union u by 1{1:a;};}", "000", "000", "100");
        uses("struct z{}struct a{}struct b{union u by 1{1:a;};}", "000", "000", "010");
        uses("struct z{}struct a{}struct b{}struct c{union u by 1{1:a;else b;};}", "0000", "0000", "0000", "0110");
        uses("struct z{}struct a{}struct b{}struct c{union u by 1{1:z;2:b;};}", "0000", "0000", "0000", "1010");
        uses("struct a{to a x by u1;}struct b{}", "10", "00");
        uses("struct z{}struct a{to b x by u1;}struct b{}", "000", "001", "000");
        uses("struct z{}struct b{if 0:z x;}", "00", "10");
    }

    private static void usesByWay() {
        Check.says("uses: or of one of which that is so");
        uses("struct a{}struct b{a x;}struct c{b x;}struct d{c x;}", "0000", "1000", "1100", "1110");
        uses("struct a{to b x by u1;}struct b{to c x by u1;}struct c{to d x by u1;}struct d{}", "0111", "0011", "0001", "0000");
        uses("struct a{to b x by u1;}struct b{to a x by u1;}", "11", "11");
        uses("struct a{to d x by u1;}struct b{}struct c{a x;}struct d{c x;b y;}", "1111", "0000", "1111", "1111");
        uses("struct a{}struct b{union u by 1{1:a;};}struct c{union u by 1{1:b;};}struct d{}struct e{union u by 1{1:d;else c;};}",
                "00000", "10000", "11000", "00000", "11110");
    }

    private static void usesOfTwenty() {
        Check.says("uses: NONE. (STRUCTURES: 20 at most)");
        OverlayViewer x = Check.viewer("struct a0{}struct a1{a0 x;}struct a2{a1 x;}struct a3{a2 x;}struct a4{a3 x;}struct a5{a4 x;}"
                + "struct a6{a5 x;}struct a7{a6 x;}struct a8{a7 x;}struct a9{a8 x;}struct b0{a9 x;}struct b1{b0 x;}struct b2{b1 x;}"
                + "struct b3{b2 x;}struct b4{b3 x;}struct b5{b4 x;}struct b6{b5 x;}struct b7{b6 x;}struct b8{b7 x;}struct b9{b8 x;}");
        Check.due("the last uses the first", x.uses(19, 0), 1);
        Check.due("the last uses the one ahead", x.uses(19, 18), 1);
        Check.due("the last does not use itself", x.uses(19, 19), 0);
        Check.due("the first uses none", x.uses(0, 19), 0);
        int[] none = {-1, 20, Integer.MIN_VALUE, Integer.MAX_VALUE, 32};
        for (int s : none) {
            Check.due("uses(" + s + ", 0)", x.uses(s, 0), Check.NONE);
            Check.due("uses(0, " + s + ")", x.uses(0, s), Check.NONE);
            Check.due("uses(19, " + s + ")", x.uses(19, s), Check.NONE);
            Check.due("uses(" + s + ", " + s + ")", x.uses(s, s), Check.NONE);
        }
    }
}
