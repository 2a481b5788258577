/** Part 3 of the document and promises 28, 29: EXPRESSIONS; each sentence that names a bound. */
public final class ExpressionBoundsTest {
    /** The greatest long, of NUMBERS. */
    private static final String GREATEST = "(0x7fffffff*0x80000000*2+0xffffffff)";

    public static void main(String[] args) {
        longsThatWrap();
        fromTheLeft();
        binding();
        oneOrZero();
        cutTowardsZero();
        bitByBit();
        allParts();
        divisors();
        namesNotThere();
        namesWithFaults();
        namesOfThisStruct();
        hereOfEachField();
        hereLeftBegin();
        valuesOfNow();
        evaluateRefusals();
        evaluateFaults();
        evaluateAtStructs();
        outBounds();
        Check.end();
    }

    private static void gives(OverlayViewer x, String text, long due) {
        Check.due(text, Check.worked(x, text), due);
    }

    private static void fails(OverlayViewer x, String text) {
        Check.due(text + " fails", Check.evaluate(x, 0, 0, text), Check.RANGE);
    }

    private static void longsThatWrap() {
        Check.says("EXPRESSIONS are worked out in longs that wrap");
        OverlayViewer x = Check.laid("struct s{s8b a;s8b b;}", 127, 255, 255, 255, 255, 255, 255, 255, 128, 0, 0, 0, 0, 0, 0, 0);
        gives(x, GREATEST, Long.MAX_VALUE);
        gives(x, "a", Long.MAX_VALUE);
        gives(x, "b", Long.MIN_VALUE);
        gives(x, "a+1", Long.MIN_VALUE);
        gives(x, "b-1", Long.MAX_VALUE);
        gives(x, "-b", Long.MIN_VALUE);
        gives(x, "-a", -Long.MAX_VALUE);
        gives(x, "a+a", -2);
        gives(x, "b+b", 0);
        gives(x, "a*2", -2);
        gives(x, "a*a", 1);
        gives(x, "b*-1", Long.MIN_VALUE);
        gives(x, "b/-1", Long.MIN_VALUE);
        gives(x, "b%-1", 0);
        gives(x, "a-b", -1);
        gives(x, "0xffffffff+1", 0x100000000L);
        gives(x, "0xffffffff*0xffffffff", 0xffffffffL * 0xffffffffL);
        gives(x, "b<a", 1);
        gives(x, "a<b", 0);
        gives(x, "a+1<a", 1);
        gives(x, "a&b", 0);
    }

    private static void fromTheLeft() {
        Check.says("worked out from the left to the right");
        OverlayViewer x = Check.laid("struct s{}");
        gives(x, "10-3-2", 5);
        gives(x, "10-3+2", 9);
        gives(x, "100/10/5", 2);
        gives(x, "100/10*5", 50);
        gives(x, "100%30*2", 20);
        gives(x, "7*3%4", 1);
        gives(x, "6&3*2", 4);
        gives(x, "2*6&3", 0);
        gives(x, "1 or 0 and 0", 1);
        gives(x, "0 and 0 or 1", 1);
        gives(x, "--3", 3);
        gives(x, "-not 0", -1);
        gives(x, "not-1", 0);
        gives(x, "not not 5", 1);
    }

    private static void binding() {
        Check.says("expr: both { or both } both: step { and step } step: sums [ .. ] sums: term { .. } term: factor { .. }");
        OverlayViewer x = Check.laid("struct s{}");
        gives(x, "1+2*3", 7);
        gives(x, "(1+2)*3", 9);
        gives(x, "2*3+1", 7);
        gives(x, "-2*3", -6);
        gives(x, "-2+3", 1);
        gives(x, "-(2+3)", -5);
        gives(x, "1+1=2", 1);
        gives(x, "1=2+1", 0);
        gives(x, "2<1+2", 1);
        gives(x, "not 1=0", 1);
        gives(x, "not (1=0)", 1);
        gives(x, "not 0=0", 0);
        gives(x, "not (0=0)", 0);
        gives(x, "not 0=5", 0);
        gives(x, "not (0=5)", 1);
        gives(x, "not 0+1", 2);
        gives(x, "1=1 and 2=2", 1);
        gives(x, "1 or 1 and 0", 1);
        gives(x, "(1 or 1) and 0", 0);
        gives(x, "0 or 0 or 1", 1);
        gives(x, "1 and 1 and 0", 0);
        gives(x, "(0 or 1)", 1);
        gives(x, "(1 and 0)", 0);
        gives(x, "4&6+1", 5);
        gives(x, "3+4&6", 7);
    }

    private static void oneOrZero() {
        Check.says("= < > and or not give 1, 0 (what is not 0 is true)");
        OverlayViewer x = Check.laid("struct s{}");
        gives(x, "5=5", 1);
        gives(x, "5=6", 0);
        gives(x, "-5=5", 0);
        gives(x, "5<6", 1);
        gives(x, "5<5", 0);
        gives(x, "6<5", 0);
        gives(x, "-6<5", 1);
        gives(x, "6>5", 1);
        gives(x, "5>5", 0);
        gives(x, "5>6", 0);
        gives(x, "5>-6", 1);
        for (String truth : new String[] {"1", "2", "-1", "256", "0xffffffff", "0x80000000*0x80000000*2", "-" + GREATEST}) {
            gives(x, truth + " and 7", 1);
            gives(x, "7 and " + truth, 1);
            gives(x, truth + " and 0", 0);
            gives(x, "0 and " + truth, 0);
            gives(x, truth + " or 0", 1);
            gives(x, "0 or " + truth, 1);
            gives(x, truth + " or 5", 1);
            gives(x, "not (" + truth + ")", 0);
        }
        gives(x, "0 and 0", 0);
        gives(x, "0 or 0", 0);
        gives(x, "not 0", 1);
        Check.says("if: 0: the field is not there (what is not 0 is true)");
        OverlayViewer y = Check.laid("struct s{if 2:u1 a;if -1:u1 b;if 0:u1 c;if 0x80000000*0x80000000*4:u1 d;if 0xffffffff+1:u1 e;}",
                1, 2, 3);
        Check.due("nodes", y.faults(0, 2), 4);
        Check.due("the last", Check.name(y, 0, 3, 0), "e");
    }

    private static void cutTowardsZero() {
        Check.says("/ % cut towards 0");
        OverlayViewer x = Check.laid("struct s{}");
        gives(x, "7/2", 3);
        gives(x, "-7/2", -3);
        gives(x, "7/-2", -3);
        gives(x, "-7/-2", 3);
        gives(x, "1/2", 0);
        gives(x, "-1/2", 0);
        gives(x, "7%2", 1);
        gives(x, "-7%2", -1);
        gives(x, "7%-2", 1);
        gives(x, "-7%-2", -1);
        gives(x, "6%2", 0);
        gives(x, "0/5", 0);
        gives(x, "0%5", 0);
    }

    private static void bitByBit() {
        Check.says("& bit by bit");
        OverlayViewer x = Check.laid("struct s{}");
        gives(x, "12&10", 8);
        gives(x, "-1&255", 255);
        gives(x, "-2&-4", -4);
        gives(x, "1&2", 0);
        gives(x, "0xffffffff&0x0f0f0f0f", 0x0f0f0f0f);
        gives(x, "-1&0xffffffff", 0xffffffffL);
    }

    private static void allParts() {
        Check.says("all parts (of and, or, too)");
        OverlayViewer x = Check.laid("struct s{u1 z;}", 0);
        for (String text : new String[] {"0 and 1/0", "1/0 and 0", "1 or 1/0", "1/0 or 1", "0*(1/0)", "0&1%0", "1=1/0", "1<1%0",
            "not (1/0)", "-(1%0)", "(1/0)", "1+1/0", "1-1%0", "(1/0)=(1/0)", "0 and 0 and 1/z", "1 or 1 or 1%z"}) {
            fails(x, text);
        }
    }

    private static void divisors() {
        Check.says("They FAIL: / or % by 0");
        OverlayViewer x = Check.laid("struct s{u1 z;s8b b;}", 0, 128, 0, 0, 0, 0, 0, 0, 0);
        for (String text : new String[] {"1/0", "0/0", "1%0", "0%0", "b/0", "b%0", "1/z", "1%z", "1/(1-1)", "1%(2&1)", "1/not 1"}) {
            fails(x, text);
        }
        gives(x, "1/1", 1);
        gives(x, "1%1", 0);
        gives(x, "1/-1", -1);
        gives(x, "b/1", Long.MIN_VALUE);
        gives(x, "b/b", 1);
        gives(x, "1/b", 0);
        gives(x, "1/not z", 1);
    }

    private static void namesNotThere() {
        Check.says("They FAIL: a NAME whose NODE is not there");
        OverlayViewer x = Check.laid("struct s{u1 n;if 0:u1 a;if 0:bits u1 b{p:1,q:2};if 0:to s c by u1;if 0:sum add u1 d of 0,0;"
                + "if 1/0:u1 e;if 1:u1 f;}", 1, 7);
        for (String name : new String[] {"a", "p", "q", "c", "d", "e"}) {
            fails(x, name);
            fails(x, "0*" + name);
            fails(x, "1 or " + name);
        }
        gives(x, "f", 7);
        gives(x, "n", 1);
        Check.says("They FAIL: a NAME whose NODE is not there; if: it FAILS: neither, and the STRUCT has FAULT 6");
        OverlayViewer y = Check.laid("struct t{}struct s{if 0:u1 a;u1 b[a];text c[a];union d by a{0:t;};to t e by u1 from a;sum add u1 f of a,0;"
                + "sum add u1 g of 0,a;if a:u1 h;u1 i;}", 0, 0, 0, 9);
        Check.nodes(y, "0 0 4 -1 7 6 0 1 0", "2 0 0 0 0 6 0 -1 0", "5 0 0 0 0 6 0 -1 0", "6 0 0 0 0 6 0 -1 0",
                "7 0 1 0 0 6 0 -1 0", "10 1 2 0 0 6 0 -1 0", "10 2 3 0 0 6 0 -1 0", "1 3 4 0 0 0 0 -1 9");
    }

    private static void namesWithFaults() {
        Check.says("They FAIL: a NAME whose NODE has FAULT 1");
        for (String field : new String[] {"u2 a;", "bits u2 b{a:1};", "to s a by u2;", "sum add u2 a of 0,0;"}) {
            OverlayViewer x = Check.laid("struct s{u1 n;" + field + "}", 1, 2);
            Check.due("fault 1", x.node(0, 2, 5), 1);
            fails(x, "a");
            x.push(0, 3, 1);
            fails(x, "a");
        }
        OverlayViewer x = Check.laid("enum e{v=1}struct s{u1 a is e;to s b by u1;sum add u1 c of 0,0;sum add u1 d of 1,0;}", 9, 99, 3, 4);
        Check.due("other faults", Check.faults(x, 0), "0 4 8 3 5");
        gives(x, "a", 9);
        gives(x, "b", 99);
        gives(x, "c", 3);
        gives(x, "d", 4);
    }

    private static void namesOfThisStruct() {
        Check.says("worked out at a STRUCT: a NAME is the VALUE of that field's or part's NODE");
        OverlayViewer x = Check.laid("struct t{u1 n;text v[n];}struct s{u1 n;t a;t b;text c[n];u1 d;}", 1, 2, 8, 8, 0, 9, 5);
        Check.nodes(x, "0 0 7 -1 5 0 0 1 0", "1 0 1 0 0 0 0 -1 1", "0 1 4 0 2 0 0 0 0", "1 1 2 2 0 0 0 -1 2",
                "5 2 4 2 0 0 0 -1 2", "0 4 5 0 2 0 0 0 0", "1 4 5 5 0 0 0 -1 0", "5 5 5 5 0 0 0 -1 0",
                "5 5 6 0 0 0 0 -1 1", "1 6 7 0 0 0 0 -1 5");
        OverlayViewer y = Check.laid("struct s{bits u1 b{p:1,q:3,r:4};u1 c[q];if r=9:u1 d;if p:u1 e;}", 0x94, 1, 2, 3);
        Check.nodes(y, "0 0 4 -1 3 0 0 0 0", "3 0 1 0 3 0 0 -1 148", "4 0 1 1 0 0 0 -1 0", "4 0 1 1 0 0 0 -1 2",
                "4 0 1 1 0 0 0 -1 9", "2 1 3 0 2 0 0 -1 2", "1 1 2 5 0 0 0 -1 1", "1 2 3 5 0 0 0 -1 2", "1 3 4 0 0 0 0 -1 3");
    }

    private static void hereOfEachField() {
        Check.says("here: the PLACE q that is come to (of a field where it begins)");
        // each of these would be of another number with where the field ends, or with the distance from the STRUCT
        OverlayViewer x = Check.viewer("struct t{}struct s{u1 z;u1 a[here];text b[here-3];union c by here{5:t;};"
                + "to t d by u1 from here-5;sum add u1 e of 0,here-begin;if here=7:u1 f;pad 4;}", 9, 0, 1, 2, 9, 0, 13, 7, 8, 9);
        x.lay(0, 1, 1);
        Check.nodes(x, "0 1 9 -1 8 0 0 1 0", "1 1 2 0 0 0 0 -1 0", "2 2 4 0 2 0 0 -1 2", "1 2 3 2 0 0 0 -1 1",
                "1 3 4 2 0 0 0 -1 2", "5 4 5 0 0 0 0 -1 1", "6 5 5 0 1 0 0 -1 0", "0 5 5 6 0 0 0 0 0",
                "7 5 6 0 1 0 0 -1 0", "0 0 0 8 0 0 0 0 0", "10 6 7 0 0 3 0 -1 13", "1 7 8 0 0 0 0 -1 7", "8 8 9 0 0 0 0 -1 0");
        x.fix(0, 10);
        Check.due("the sum's distances are 0 .. 4", x.value(0, 10), 0 + 1 + 2 + 9 + 0);
    }

    private static void hereLeftBegin() {
        Check.says("left: LENGTH less that, begin: where the STRUCT begins");
        OverlayViewer x = Check.viewer("struct t{u1 a[left];}struct s{u1 z;u1 a[begin];u1 b[left-2];t c;}", 9, 9, 1, 2, 3, 4, 5, 6);
        x.lay(0, 1, 2);
        Check.nodes(x, "0 2 8 -1 4 0 0 1 0", "1 2 3 0 0 0 0 -1 1", "2 3 5 0 2 0 0 -1 2", "1 3 4 2 0 0 0 -1 2",
                "1 4 5 2 0 0 0 -1 3", "2 5 6 0 1 0 0 -1 1", "1 5 6 5 0 0 0 -1 4", "0 6 8 0 1 0 0 0 0", "2 6 8 7 2 0 0 -1 2",
                "1 6 7 8 0 0 0 -1 5", "1 7 8 8 0 0 0 -1 6");
        OverlayViewer y = Check.viewer("struct s{if left=0:u1 a;if here=begin:pad 1;}", 1, 2);
        y.lay(0, 0, 2);
        Check.nodes(y, "0 2 2 -1 1 0 0 0 0", "1 2 2 0 0 1 0 -1 0");
        Check.says("evaluate: (here: its TO; NAMES its fields', all of them)");
        OverlayViewer z = Check.viewer("struct t{u2 a;}struct s{u1 z;t c;u1 d;}", 9, 1, 0, 2, 3, 4);
        z.lay(0, 1, 1);
        gives(z, "here", 5);
        gives(z, "left", 1);
        gives(z, "begin", 1);
        gives(z, "z*10+d", 13);
        Check.due("at t", Check.evaluate(z, 0, 2, "here*1000+left*100+begin*10+a/512"), 0);
        Check.due("out", z.out(), 4221);
        z.push(0, 1, 1);
        gives(z, "left", 2);
    }

    private static void valuesOfNow() {
        Check.says("VALUE: It is read from what the IMAGE HAS now");
        OverlayViewer x = Check.laid("struct s{u1 n;u1 a[n];}", 2, 1, 1);
        x.layer(0);
        x.poke(0, 0, 200);
        gives(x, "n", 200);
        gives(x, "here", 3);
        x.drop(0);
        gives(x, "n", 2);
    }

    private static void evaluateRefusals() {
        Check.says("evaluate: NONE (THE TAPE stays, as with KIND): no such NODE; KIND: it is no STRUCT.");
        OverlayViewer x = Check.laid("struct t{u1 v;}struct s{u1 a;u1 b[1];bits u1 c{p:1};text d[1];union e by 1{1:t;};to t f by u1;"
                + "pad 1;magic g=0;sum add u1 h of 0,0;t i;}", new int[20]);
        int structs = 0;
        Check.feed(x, "7");
        for (int n = 0; n < x.faults(0, 2); n++) {
            boolean struct = x.node(0, n, 0) == 0;
            if (!struct) {
                Check.due("evaluate(0, " + n + ")", x.evaluate(0, n), Check.KIND);
                Check.due("the tape stays", x.count(1), 1);
            }
            structs += struct ? 1 : 0;
        }
        Check.due("structs", structs, 4);
        for (int n : new int[] {-1, x.faults(0, 2), Integer.MIN_VALUE, Integer.MAX_VALUE}) {
            Check.due("evaluate(0, " + n + ")", x.evaluate(0, n), Check.NONE);
            Check.due("evaluate(1, " + n + ")", x.evaluate(1, n), Check.NONE);
            Check.due("evaluate(-1, " + n + ")", x.evaluate(-1, n), Check.NONE);
            Check.due("the tape stays", x.count(1), 1);
        }
        Check.due("evaluate", x.evaluate(0, 0), 0);
        Check.due("out", x.out(), 7);
    }

    private static void evaluateFaults() {
        Check.says("evaluate: THE TAPE is an expr; -10 less the PLACE of its FAULT");
        OverlayViewer x = Check.laid("enum e{v=1}struct t{u1 w;}struct s{u1 a;u1 b[1];bits u1 c{p:1};text d[1];t f;magic g=0;}",
                new int[20]);
        String[] texts = {"^", "   ^", "a+^", "a ^a", "^)", "(a^", "(a ^(", "^#", "a+^#", "a^#", "^abcdefghi", "^1234567890", "^q", "a+^v",
            "^e", "^t", "^s", "^w", "^b", "^c", "^d", "^f", "^g", "a=1^=1", "^u1", "^if", "a^;", "a^:", "a^]", "a^,", "^[", "^+a", "a+^*a"};
        int[] faults = {2, 2, 2, 2, 2, 2, 2, 1, 1, 1, 1, 1, 4, 4, 4, 4, 4, 4, 4, 4, 4, 4, 4, 2, 2, 2, 2, 2, 2, 2, 2, 2, 2};
        Check.due("rows", texts.length, faults.length);
        for (int i = 0; i < texts.length; i++) {
            Check.due("evaluate " + texts[i], Check.evaluate(x, 0, 0, texts[i].replace("^", "")), -10 - texts[i].indexOf('^'));
            Check.due("wrong of " + texts[i], x.wrong(), faults[i]);
            Check.due("the tape of " + texts[i], x.count(1), 0);
        }
        gives(x, " \n a \n + p ", 0);
    }

    private static void evaluateAtStructs() {
        Check.says("evaluate: worked out at a STRUCT that is laid");
        // the 21st STRUCT has no fields, so its NAMES are told but not there
        int[] bytes = new int[30];
        for (int i = 0; i < 30; i++) {
            bytes[i] = i + 1;
        }
        OverlayViewer x = Check.laid("struct s{to s a by u1;}", bytes);
        Check.due("the 20th", Check.evaluate(x, 0, 38, "a"), 0);
        Check.due("out", x.out(), 20);
        Check.due("the 21st", x.node(0, 40, 5), 9);
        Check.due("the 21st", Check.evaluate(x, 0, 40, "a"), Check.RANGE);
        Check.due("the 21st", Check.evaluate(x, 0, 40, "begin*100+here"), 0);
        Check.due("out", x.out(), 2020);
        Check.due("the 21st", Check.evaluate(x, 0, 40, "b"), -10);
        Check.due("a great chain", x.faults(0, 2), 41);
    }

    private static void outBounds() {
        Check.says("out: What the latest evaluate() gave that answered 0; 0: there was none.");
        OverlayViewer x = Check.laid("struct s{u1 a;}", 1);
        Check.due("out", x.out(), 0);
        Check.due("fails", Check.evaluate(x, 0, 0, "1/0"), Check.RANGE);
        Check.due("out", x.out(), 0);
        Check.due("gives", Check.evaluate(x, 0, 0, "-5"), 0);
        Check.due("out", x.out(), -5);
        Check.due("fails", Check.evaluate(x, 0, 0, "7+1/0"), Check.RANGE);
        Check.due("out", x.out(), -5);
        Check.due("a fault", Check.evaluate(x, 0, 0, "7+"), -12);
        Check.due("out", x.out(), -5);
        Check.due("none", x.evaluate(0, 9), Check.NONE);
        Check.due("kind", x.evaluate(0, 1), Check.KIND);
        Check.due("out", x.out(), -5);
        Check.due("another description", Check.describe(x, "struct s{u1 b;}"), 1);
        Check.due("out", x.out(), -5);
        x.lay(0, 0, 0);
        Check.due("gives 0", Check.evaluate(x, 0, 0, "0"), 0);
        Check.due("out", x.out(), 0);
        gives(x, GREATEST, Long.MAX_VALUE);
        Check.due("out", x.out(), Long.MAX_VALUE);
    }
}
