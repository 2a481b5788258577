/** Promises 18 to 29: the calls about trees. */
public final class TreesTest {
    public static void main(String[] args) {
        layRefuses();
        many();
        relay();
        clear();
        node();
        kid();
        value();
        sign();
        letter();
        faults();
        find();
        evaluate();
        evaluateFaults();
        Check.end();
    }

    private static void layRefuses() {
        OverlayViewer x = Check.viewer("struct s{u1 a;}", 1, 2, 3);
        Check.due("no image", x.lay(1, 0, 9), Check.NONE);
        Check.due("no structure", x.lay(0, 1, 9), Check.NONE);
        Check.due("no structure", x.lay(0, -1, 0), Check.NONE);
        Check.due("place -1", x.lay(0, 0, -1), Check.RANGE);
        Check.due("place beyond", x.lay(0, 0, 4), Check.RANGE);
        Check.due("place at the end", x.lay(0, 0, 3), 0);
        for (int t = 1; t < 6; t++) {
            Check.due("lay", x.lay(0, 0, 0), t);
        }
        Check.due("7th", x.lay(0, 0, 0), Check.FULL);
        Check.due("7th with a wrong place", x.lay(0, 0, 4), Check.RANGE);
        Check.due("trees", x.count(4), 6);
        Check.due("nodes", x.count(5), 12);
    }

    private static void many() {
        OverlayViewer x = new OverlayViewer();
        Check.filled(x, 400, 199);
        x.poke(0, 0, 198);
        // 1 STRUCT, 1 WHOLE, an ARRAY with n, an ARRAY with n: 4 + 198 + 198 is 400
        Check.describe(x, "struct s{u1 n;u1 a[n];u1 b[n];}");
        Check.due("400", x.lay(0, 0, 0), 0);
        Check.due("400", x.faults(0, 2), 400);
        x.poke(0, 0, 199);
        Check.due("402", x.lay(0, 0, 0), Check.MANY);
        Check.due("trees", x.count(4), 1);
        Check.due("relay", x.relay(0), Check.MANY);
        Check.due("the tree stays", x.faults(0, 2), 400);
        Check.due("the tree stays", x.value(0, 2), 198);
        x.poke(0, 0, 3);
        Check.due("relay", x.relay(0), 10);
        for (int t = 1; t < 6; t++) {
            x.lay(0, 0, 0);
        }
        x.poke(0, 0, 199);
        Check.due("full is ahead of many", x.lay(0, 0, 0), Check.FULL);
        // STRUCTS without end are many, too
        Check.describe(x, "struct e{}struct t{e a[200];}struct s{t a[3];}");
        Check.due("structs", x.lay(0, 2, 0), Check.MANY);
        Check.due("structs", x.lay(0, 1, 0), 0);
        Check.due("structs", x.count(5), 202);
        Check.describe(x, "struct q{bits u1 b{a:1,b1:1,c:1,d:1,e:1,f:1};}struct s{q a[49];q c;u1 d;}");
        // 2 + 49 * 8 + 8 is 402
        Check.due("bits", x.lay(0, 1, 0), Check.MANY);
    }

    private static void relay() {
        OverlayViewer x = Check.viewer("struct s{u1 n;u1 a[n];}", 9, 1, 5, 6, 7);
        x.lay(0, 0, 1);
        Check.due("nodes", x.faults(0, 2), 4);
        x.poke(0, 1, 3);
        Check.due("it stays as laid", x.value(0, 2), 1);
        Check.due("values are those of now", x.value(0, 1), 3);
        Check.due("relay", x.relay(0), 6);
        Check.due("at its place", x.node(0, 0, 1), 1);
        Check.due("value", x.value(0, 5), 7);
        x.layer(0);
        x.poke(0, 1, 0);
        Check.due("relay by what the image has", x.relay(0), 3);
        Check.due("relay none", x.relay(1), Check.NONE);
        Check.due("relay none", x.relay(-1), Check.NONE);
    }

    private static void clear() {
        OverlayViewer x = Check.viewer("struct s{u1 n;}", 9, 1);
        x.lay(0, 0, 1);
        x.lay(0, 0, 0);
        Check.due("clear", x.clear(), 2);
        Check.due("gone", x.node(0, 0, 0), Check.NONE);
        Check.due("clear", x.clear(), 0);
        Check.due("lay", x.lay(0, 0, 0), 0);
        Check.due("value", x.value(0, 1), 9);
        Check.due("the description stays", x.count(2), 1);
    }

    private static void node() {
        OverlayViewer x = Check.viewer("struct t{to t a by u1;}struct s{t x;}", 0, 1);
        x.lay(0, 1, 1);
        // t at 1 aims at 1, where it is itself
        int[] root = {0, 1, 2, -1, 1, 0, 0, 1};
        int[] pointer = {7, 1, 2, 1, 0, 0, 1, -1};
        for (int what = 0; what < 8; what++) {
            Check.due("node 0 what " + what, x.node(0, 0, what), root[what]);
            Check.due("node 2 what " + what, x.node(0, 2, what), pointer[what]);
        }
        Check.due("what 8", x.node(0, 0, 8), Check.NONE);
        Check.due("what -1", x.node(0, 0, -1), Check.NONE);
        Check.due("node 3", x.node(0, 3, 0), Check.NONE);
        Check.due("node -1", x.node(0, -1, 0), Check.NONE);
        Check.due("tree 1", x.node(1, 0, 0), Check.NONE);
        Check.due("tree -1", x.node(-1, 0, 0), Check.NONE);
    }

    private static void kid() {
        OverlayViewer x = Check.viewer("struct t{u1 a;}struct s{t x;u1 y[2];t z;}", 1, 2, 3, 4);
        x.lay(0, 1, 0);
        Check.due("kid 0", x.kid(0, 0, 0), 1);
        Check.due("kid 1", x.kid(0, 0, 1), 3);
        Check.due("kid 2", x.kid(0, 0, 2), 6);
        Check.due("kid 3", x.kid(0, 0, 3), Check.NONE);
        Check.due("kid -1", x.kid(0, 0, -1), Check.NONE);
        Check.due("kid of an array", x.kid(0, 3, 1), 5);
        Check.due("kid of a whole", x.kid(0, 2, 0), Check.NONE);
        Check.due("no node", x.kid(0, 8, 0), Check.NONE);
        Check.due("no tree", x.kid(1, 0, 0), Check.NONE);
    }

    private static void value() {
        OverlayViewer x = Check.viewer("struct s{u1 n;text a[n];text b until 0;u1 c[n];u8 d;}", 2, 3, 4, 5, 0, 6, 7);
        x.lay(0, 0, 0);
        x.layer(0);
        x.poke(0, 0, 1);
        x.poke(0, 3, 0);
        Check.due("a whole as it is now", x.value(0, 1), 1);
        Check.due("a text does not change", x.value(0, 2), 2);
        Check.due("until does not change", x.value(0, 3), 1);
        Check.due("an array does not change", x.value(0, 4), 2);
        Check.due("fault 1", x.value(0, 7), 0);
        Check.due("a struct", x.value(0, 0), 0);
        Check.due("no node", x.value(0, 8), 0);
        Check.due("no tree", x.value(1, 0), 0);
        x.drop(0);
        Check.due("a whole again", x.value(0, 1), 2);
    }

    private static void sign() {
        OverlayViewer x = Check.viewer("struct s{text a[2];text b until 0;u1 c;text d[9];}", 65, 66, 67, 68, 0, 1);
        x.lay(0, 0, 0);
        Check.due("sign 1", x.sign(0, 1, 1), 66);
        Check.due("sign 2", x.sign(0, 1, 2), Check.NONE);
        Check.due("sign -1", x.sign(0, 1, -1), Check.NONE);
        Check.due("until 1", x.sign(0, 2, 1), 68);
        Check.due("until, its last", x.sign(0, 2, 2), Check.NONE);
        Check.due("a whole", x.sign(0, 3, 0), Check.NONE);
        Check.due("outside", x.sign(0, 4, 0), Check.NONE);
        Check.due("no node", x.sign(0, 5, 0), Check.NONE);
        Check.due("no tree", x.sign(1, 0, 0), Check.NONE);
        x.layer(0);
        x.poke(0, 0, 200);
        Check.due("as the image has it", x.sign(0, 1, 0), 200);
    }

    private static void letter() {
        OverlayViewer x = Check.viewer("enum e{one=1,uno=1,two=2}struct name{u1 ab9 is e;u1 c;u1 d[1];u1 e[1];pad 9;u1 f is e;}",
                1, 2, 3, 4);
        x.lay(0, 0, 0);
        Check.due("struct", Check.name(x, 0, 0, 0), "name");
        Check.due("field", Check.name(x, 0, 1, 0), "ab9");
        Check.due("pair", Check.name(x, 0, 1, 1), "one");
        x.poke(0, 0, 2);
        Check.due("pair of now", Check.name(x, 0, 1, 1), "two");
        x.poke(0, 0, 3);
        Check.due("no pair", x.letter(0, 1, 1, 0), Check.NONE);
        Check.due("without is", x.letter(0, 2, 1, 0), Check.NONE);
        Check.due("letter 3", x.letter(0, 1, 0, 3), Check.NONE);
        Check.due("letter -1", x.letter(0, 1, 0, -1), Check.NONE);
        Check.due("letter 8", x.letter(0, 1, 0, 8), Check.NONE);
        Check.due("which 2", x.letter(0, 1, 2, 0), Check.NONE);
        Check.due("which -1", x.letter(0, 1, -1, 0), Check.NONE);
        Check.due("a whole in an array", x.letter(0, 4, 0, 0), Check.NONE);
        Check.due("a pad", x.letter(0, 7, 0, 0), Check.NONE);
        Check.due("a struct's pair", x.letter(0, 0, 1, 0), Check.NONE);
        Check.due("no node", x.letter(0, 8, 0, 0), Check.NONE);
        Check.due("no tree", x.letter(1, 0, 0, 0), Check.NONE);
    }

    private static void faults() {
        OverlayViewer x = Check.viewer("struct s{u1 a;magic m=1;magic n=2;u2 b;}", 1, 2, 3);
        x.lay(0, 0, 0);
        Check.due("how many", x.faults(0, 0), 3);
        Check.due("the first", x.faults(0, 1), 2);
        Check.due("nodes", x.faults(0, 2), 5);
        Check.due("what 3", x.faults(0, 3), Check.NONE);
        Check.due("what -1", x.faults(0, -1), Check.NONE);
        Check.due("no tree", x.faults(1, 0), Check.NONE);
        Check.describe(x, "struct s{u1 a;}");
        x.lay(0, 0, 0);
        Check.due("none", x.faults(0, 0), 0);
        Check.due("no first", x.faults(0, 1), Check.NONE);
    }

    private static void find() {
        OverlayViewer x = Check.viewer("struct p{u1 v;u1 w;}struct s{p a[2];bits u1 b{lo:4,hi:4};union u by 1{1:p;};"
                + "to p w by u1;pad 1;u1 z;}", new int[20]);
        x.lay(0, 1, 0);
        Check.due("nothing", x.find(0), 0);
        Check.due("a", Check.find(x, 0, "a"), 1);
        Check.due("a 1 w", Check.find(x, 0, "a 1 w"), 7);
        Check.due("a p w: the first kid with it", Check.find(x, 0, "\na\np w "), 4);
        Check.due("b hi", Check.find(x, 0, "b hi"), 10);
        Check.due("u p v", Check.find(x, 0, "u p v"), 13);
        Check.due("w 0 1", Check.find(x, 0, "w 0x0 1"), 18);
        Check.due("5", Check.find(x, 0, "5"), 20);
        Check.due("6", Check.find(x, 0, "6"), -10);
        Check.due("a 2", Check.find(x, 0, "a 2"), -11);
        Check.due("a 1 x", Check.find(x, 0, "a 1 x"), -12);
        Check.due("a keyword", Check.find(x, 0, "a if"), -11);
        Check.due("a whole", Check.find(x, 0, "u1"), -10);
        Check.due("a sign", Check.find(x, 0, "a 1/v"), -12);
        Check.due("no token", Check.find(x, 0, "a 1 #"), -12);
        Check.due("a great number", Check.find(x, 0, "a 0xffffffff"), -11);
        Check.due("a great number", Check.find(x, 0, "a 999999999"), -11);
        Check.due("the tape is empty", x.count(1), 0);
        Check.due("no tree", Check.find(x, 1, "a"), Check.NONE);
        Check.due("the tape stays", x.count(1), 1);
    }

    private static void evaluate() {
        OverlayViewer x = Check.viewer("struct t{u1 a;}struct s{u1 n;t x;sum add u1 c of 0,0;to t w by u1;u1 e[1];u4 o;u1 p;}",
                4, 5, 6, 3, 8, 9);
        x.lay(0, 1, 0);
        Check.due("out at first", x.out(), 0);
        Check.due("evaluate", Check.evaluate(x, 0, 0, "n*100+c*10+w"), 0);
        Check.due("out", x.out(), 463);
        Check.due("the tape is empty", x.count(1), 0);
        Check.due("at a struct within", Check.evaluate(x, 0, 2, "a*100+here*10+begin"), 0);
        Check.due("out", x.out(), 521);
        Check.due("left", Check.evaluate(x, 0, 2, "left"), 0);
        Check.due("out", x.out(), 4);
        Check.due("it fails", Check.evaluate(x, 0, 0, "1/0"), Check.RANGE);
        Check.due("the text had no fault", x.wrong(), 0);
        Check.due("out stays", x.out(), 4);
        Check.due("a node with fault 1", Check.evaluate(x, 0, 0, "o"), Check.RANGE);
        Check.due("a node that is not there", Check.evaluate(x, 0, 0, "p"), Check.RANGE);
        x.poke(0, 0, 9);
        Check.due("of now", Check.evaluate(x, 0, 0, "n"), 0);
        Check.due("out", x.out(), 9);
        Check.due("no struct", Check.evaluate(x, 0, 1, "n"), Check.KIND);
        Check.due("the tape stays", x.count(1), 1);
        Check.due("no node", x.evaluate(0, 99), Check.NONE);
        Check.due("no tree", x.evaluate(1, 0), Check.NONE);
        Check.due("the tape stays", x.count(1), 1);
        Check.due("and is read now", x.evaluate(0, 0), 0);
    }

    private static void evaluateFaults() {
        OverlayViewer x = Check.viewer("struct t{u1 a;}struct s{u1 n;t x;u1 e[1];bits u1 b{p:1};}", 4, 5, 6, 7);
        x.lay(0, 1, 0);
        String[] texts = {"^", "n+^", "^+", "n ^n", "^x", "^e", "^b", "^a", "n+^A", "^u1", "^)", "(n^", "n^)", "n^;",
            "^123456789012"};
        int[] due = {2, 2, 2, 2, 4, 4, 4, 4, 1, 2, 2, 2, 2, 2, 1};
        for (int i = 0; i < texts.length; i++) {
            String text = texts[i];
            Check.due("evaluate " + text, Check.evaluate(x, 0, 0, text.replace("^", "")), -10 - text.indexOf('^'));
            Check.due("wrong of " + text, x.wrong(), due[i]);
            Check.due("the tape is empty", x.count(1), 0);
        }
        Check.due("15 nests", Check.evaluate(x, 0, 0, "---------------1"), 0);
        Check.due("out", x.out(), -1);
        Check.due("16 nests", Check.evaluate(x, 0, 0, "----------------1"), -25);
        Check.due("wrong", x.wrong(), 5);
        Check.due("out stays", x.out(), -1);
        Check.due("good", Check.evaluate(x, 0, 0, " p or n\n"), 0);
        Check.due("wrong", x.wrong(), 0);
    }
}
