/** Promises 18 to 27: the calls about trees; each sentence that names a bound. */
public final class TreeBoundsTest {
    /** Numbers that none of these tests has a tree, node or KID for. */
    private static final int[] NO_NUMBERS = {-1, -2, 400, Integer.MIN_VALUE, Integer.MAX_VALUE};

    public static void main(String[] args) {
        layPlaces();
        layRefusals();
        layOnSeveralImages();
        relayBounds();
        relayMany();
        relayLeavesOthers();
        clearBounds();
        nodeBounds();
        nodeOfEachKind();
        kidBounds();
        valueBounds();
        signBounds();
        letterBounds();
        letterOfPairs();
        faultsBounds();
        findNames();
        findNumbers();
        findFaults();
        Check.end();
    }

    private static void layPlaces() {
        Check.says("lay: RANGE: place is below 0 or above LENGTH");
        OverlayViewer x = Check.viewer("struct s{if left:u1 a;}", 1, 2, 3);
        Check.due("place -1", x.lay(0, 0, -1), Check.RANGE);
        Check.due("place 4", x.lay(0, 0, 4), Check.RANGE);
        for (int place : Check.FAR) {
            Check.due("place " + place, x.lay(0, 0, place), Check.RANGE);
        }
        Check.due("no tree", x.count(4), 0);
        Check.due("place 0", x.lay(0, 0, 0), 0);
        Check.due("place 2", x.lay(0, 0, 2), 1);
        Check.due("place 3", x.lay(0, 0, 3), 2);
        Check.due("at 0", Check.node(x, 0, 0), "0 0 1 -1 1 0 0 0 0");
        Check.due("at 2", Check.node(x, 1, 0), "0 2 3 -1 1 0 0 0 0");
        Check.due("at 3", Check.node(x, 2, 0), "0 3 3 -1 0 0 0 0 0");
        OverlayViewer y = Check.viewer("struct s{}");
        Check.due("an empty image, 0", y.lay(0, 0, 0), 0);
        Check.due("an empty image, 1", y.lay(0, 0, 1), Check.RANGE);
        OverlayViewer z = new OverlayViewer();
        Check.filled(z, 2000, 1);
        Check.describe(z, "struct s{}");
        Check.due("2000", z.lay(0, 0, 2000), 0);
        Check.due("2001", z.lay(0, 0, 2001), Check.RANGE);
    }

    private static void layRefusals() {
        Check.says("lay: NONE; RANGE; FULL; MANY. (of several the first one)");
        OverlayViewer x = Check.viewer("struct e{}struct t{e a[200];e b[200];}struct s{u1 a;}", 1, 2);
        for (int none : NO_NUMBERS) {
            Check.due("image " + none, x.lay(none, 0, 9), Check.NONE);
            Check.due("structure " + none, x.lay(0, none, 9), Check.NONE);
        }
        Check.due("image 1", x.lay(1, 1, 0), Check.NONE);
        Check.due("structure 3", x.lay(0, 3, 0), Check.NONE);
        Check.due("RANGE ahead of MANY", x.lay(0, 1, 3), Check.RANGE);
        Check.due("MANY", x.lay(0, 1, 0), Check.MANY);
        Check.due("MANY at the end", x.lay(0, 1, 2), Check.MANY);
        for (int t = 0; t < 6; t++) {
            Check.due("lay", x.lay(0, 2, 0), t);
        }
        Check.due("NONE ahead of FULL", x.lay(1, 2, 0), Check.NONE);
        Check.due("NONE ahead of FULL", x.lay(0, 3, 0), Check.NONE);
        Check.due("RANGE ahead of FULL", x.lay(0, 2, 3), Check.RANGE);
        Check.due("RANGE ahead of FULL", x.lay(0, 2, -1), Check.RANGE);
        Check.due("FULL", x.lay(0, 2, 0), Check.FULL);
        Check.due("FULL ahead of MANY", x.lay(0, 1, 0), Check.FULL);
        Check.due("trees", x.count(4), 6);
        Check.due("nodes", x.count(5), 12);
        OverlayViewer y = new OverlayViewer();
        Check.due("no image, no structure", y.lay(0, 0, 0), Check.NONE);
        y.image();
        Check.due("no structure", y.lay(0, 0, 0), Check.NONE);
        Check.describe(y, "enum e{a=1}");
        Check.due("enums alone", y.lay(0, 0, 0), Check.NONE);
    }

    private static void layOnSeveralImages() {
        Check.says("lay: A structure is LAID over an IMAGE: the TREE's number");
        OverlayViewer x = Check.viewer("struct s{u1 a;}", 1);
        for (int im = 1; im < 6; im++) {
            Check.image(x, 1 + im);
        }
        for (int im = 5; im >= 0; im--) {
            Check.due("lay", x.lay(im, 0, 0), 5 - im);
        }
        for (int t = 0; t < 6; t++) {
            Check.due("of image " + (5 - t), x.value(t, 1), 6 - t);
        }
    }

    private static void relayBounds() {
        Check.says("relay: A TREE's structure is LAID anew at its PLACE: how many NODES. NONE");
        OverlayViewer x = Check.viewer("struct q{}struct s{u1 n;u1 a[n];}", 9, 2, 1, 1, 1, 1);
        Check.due("without trees", x.relay(0), Check.NONE);
        x.lay(0, 1, 1);
        for (int none : NO_NUMBERS) {
            Check.due("relay(" + none + ")", x.relay(none), Check.NONE);
        }
        Check.due("relay(1)", x.relay(1), Check.NONE);
        Check.due("as it was", x.relay(0), 5);
        x.poke(0, 1, 0);
        Check.due("fewer", x.relay(0), 3);
        Check.due("count(5)", x.count(5), 3);
        Check.due("no more", x.node(0, 3, 0), Check.NONE);
        x.poke(0, 1, 4);
        Check.due("more", x.relay(0), 7);
        Check.due("its place", x.node(0, 0, 1), 1);
        Check.due("its structure", x.node(0, 0, 7), 1);
        x.poke(0, 1, 5);
        Check.due("one is OUTSIDE", x.relay(0), 8);
        Check.due("its fault", x.faults(0, 1), 7);
        x.push(0, 1, 1);
        Check.due("it stays as laid", x.faults(0, 0), 1);
        Check.due("in a longer image", x.relay(0), 8);
        Check.due("no fault", x.faults(0, 0), 0);
        x.lay(0, 1, 7);
        x.push(0, 2, 1);
        Check.due("one at the end of then", x.relay(1), 4);
        Check.due("faults", Check.faults(x, 1), "0 0 0 1");
    }

    private static void relayMany() {
        Check.says("relay: MANY (the TREE stays)");
        OverlayViewer x = new OverlayViewer();
        Check.filled(x, 400, 1);
        Check.describe(x, "struct s{u1 n;u1 a[n];u1 b[n];u1 c[2];}");
        x.poke(0, 0, 10);
        x.lay(0, 0, 0);
        x.poke(0, 0, 198);
        Check.due("7 + 2 * 198", x.relay(0), Check.MANY);
        Check.due("the tree stays", x.faults(0, 2), 27);
        Check.due("its nodes stay", Check.node(x, 0, 13), "2 11 21 0 10 0 0 -1 10");
        Check.due("the last", Check.node(x, 0, 26), "1 22 23 24 0 0 0 -1 1");
        Check.due("values are those of now", x.value(0, 1), 198);
        x.poke(0, 0, 196);
        Check.due("7 + 2 * 196", x.relay(0), 399);
    }

    private static void relayLeavesOthers() {
        Check.says("relay: A TREE's structure is LAID anew at its PLACE (the others stay)");
        OverlayViewer x = Check.viewer("struct s{u1 n;u1 a[n];}struct t{u1 v;}", 1, 2, 3, 4, 5, 6);
        x.lay(0, 0, 0);
        x.lay(0, 1, 3);
        x.lay(0, 0, 1);
        x.poke(0, 0, 3);
        x.poke(0, 1, 0);
        Check.due("relay 0", x.relay(0), 6);
        Check.due("relay 0 again", x.relay(0), 6);
        Check.due("tree 1", Check.node(x, 1, 1), "1 3 4 0 0 0 0 -1 4");
        Check.due("tree 2", Check.node(x, 2, 2), "2 2 4 0 2 0 0 -1 2");
        Check.due("relay 2", x.relay(2), 3);
        Check.due("tree 0", Check.node(x, 0, 2), "2 1 4 0 3 0 0 -1 3");
        Check.due("tree 1", Check.node(x, 1, 1), "1 3 4 0 0 0 0 -1 4");
        Check.due("count(5)", x.count(5), 6 + 2 + 3);
        Check.due("lay", x.lay(0, 1, 5), 3);
        Check.due("tree 3", x.value(3, 1), 6);
        Check.due("tree 0", x.faults(0, 2), 6);
    }

    private static void clearBounds() {
        Check.says("clear: All TREES are gone: how many there were.");
        OverlayViewer x = Check.viewer("struct s{u1 a;}", 1);
        Check.due("none", x.clear(), 0);
        for (int trees = 1; trees <= 6; trees++) {
            for (int t = 0; t < trees; t++) {
                Check.due("lay", x.lay(0, 0, 0), t);
            }
            Check.due("clear", x.clear(), trees);
            Check.due("count(4)", x.count(4), 0);
            Check.due("count(5)", x.count(5), 0);
            for (int t = 0; t < trees; t++) {
                Check.due("gone", x.faults(t, 2), Check.NONE);
            }
        }
        Check.due("clear", x.clear(), 0);
        Check.due("the description stays", x.size(0), 1);
    }

    private static void nodeBounds() {
        Check.says("node: Of a NODE: what 0 .. 7. NONE.");
        OverlayViewer x = Check.laid("struct s{u1 a;u1 b;}", 1, 2);
        for (int what : new int[] {-1, 8, 9, Integer.MIN_VALUE, Integer.MAX_VALUE}) {
            Check.due("what " + what, x.node(0, 0, what), Check.NONE);
        }
        for (int what = 0; what < 8; what++) {
            Check.due("node 3, what " + what, x.node(0, 3, what), Check.NONE);
            Check.due("tree 1, what " + what, x.node(1, 0, what), Check.NONE);
            for (int none : NO_NUMBERS) {
                Check.due("node " + none, x.node(0, none, what), Check.NONE);
                Check.due("tree " + none, x.node(none, 0, what), Check.NONE);
            }
        }
        Check.due("the first", x.node(0, 0, 0), 0);
        Check.due("the last", x.node(0, 2, 0), 1);
    }

    private static void nodeOfEachKind() {
        Check.says("3 its parent (NONE: it has none), 6 whether it is MET (1, 0), 7 of a STRUCT its structure, else NONE. KINDS: 0 STRUCT, "
                + "1 WHOLE, 2 ARRAY, 3 BITS, 4 PART, 5 TEXT, 6 UNION, 7 POINTER, 8 PAD, 9 MAGIC, 10 SUM.");
        OverlayViewer x = Check.laid("struct z{}struct t{u1 v;}struct s{u1 a[1];bits u1 b{p:1};text c[1];union d by 1{1:t;};to s e by u1;"
                + "pad 3;magic f=0;sum add u1 g of 0,0;}", new int[12]);
        int[] kinds = {0, 2, 1, 3, 4, 5, 6, 0, 1, 7, 8, 9, 10};
        int[] parents = {-1, 0, 1, 0, 3, 0, 0, 6, 7, 0, 0, 0, 0};
        Check.due("nodes", x.faults(0, 2), kinds.length);
        for (int n = 0; n < kinds.length; n++) {
            Check.due("kind of " + n, x.node(0, n, 0), kinds[n]);
            Check.due("parent of " + n, x.node(0, n, 3), parents[n]);
            Check.due("met of " + n, x.node(0, n, 6), n == 9 ? 1 : 0);
            Check.due("structure of " + n, x.node(0, n, 7), n == 0 ? 2 : n == 7 ? 1 : Check.NONE);
        }
    }

    private static void kidBounds() {
        Check.says("kid: KID k of a NODE, from 0 on. NONE.");
        OverlayViewer x = Check.laid("struct s{u1 a;u1 b[200];text c[1];bits u1 d{p:1,q:1};}", new int[203]);
        Check.due("the first", x.kid(0, 0, 0), 1);
        Check.due("the last", x.kid(0, 0, 3), 204);
        Check.due("beyond", x.kid(0, 0, 4), Check.NONE);
        Check.due("the first of 200", x.kid(0, 2, 0), 3);
        Check.due("the last of 200", x.kid(0, 2, 199), 202);
        Check.due("beyond 200", x.kid(0, 2, 200), Check.NONE);
        Check.due("a part", x.kid(0, 204, 1), 206);
        Check.due("no part", x.kid(0, 204, 2), Check.NONE);
        for (int n : new int[] {1, 3, 203, 205}) {
            Check.due("without kids", x.kid(0, n, 0), Check.NONE);
        }
        for (int none : NO_NUMBERS) {
            Check.due("kid " + none, x.kid(0, 0, none), Check.NONE);
            Check.due("node " + none, x.kid(0, none, 0), Check.NONE);
            Check.due("tree " + none, x.kid(none, 0, 0), Check.NONE);
        }
        Check.due("tree 1", x.kid(1, 0, 0), Check.NONE);
        Check.due("node 207", x.kid(0, 207, 0), Check.NONE);
    }

    private static void valueBounds() {
        Check.says("value: The VALUE of a NODE; 0: there is no such.");
        OverlayViewer x = Check.laid("struct s{u1 a;}", 9);
        Check.due("value", x.value(0, 1), 9);
        Check.due("node 2", x.value(0, 2), 0);
        Check.due("tree 1", x.value(1, 1), 0);
        for (int none : NO_NUMBERS) {
            Check.due("node " + none, x.value(0, none), 0);
            Check.due("tree " + none, x.value(none, 1), 0);
        }
        x.clear();
        Check.due("a tree that is gone", x.value(0, 1), 0);
    }

    private static void signBounds() {
        Check.says("sign: BYTE i of a TEXT (of until, not its last one), as the IMAGE HAS it. NONE (another KIND, too).");
        OverlayViewer x = Check.laid("struct s{u1 h;text a[3];text b until 0;text c[0];text d until 0;text e[0-1];u1 f[1];magic g=7;text i[9];}",
                1, 65, 0, 255, 66, 67, 0, 0, 5, 7, 8);
        int[] a = {65, 0, 255};
        for (int i = 0; i < 3; i++) {
            Check.due("a " + i, x.sign(0, 2, i), a[i]);
        }
        Check.due("b 0", x.sign(0, 3, 0), 66);
        Check.due("b 1", x.sign(0, 3, 1), 67);
        int[] lengths = {Check.NONE, Check.NONE, 3, 2, 0, 0, 0};
        for (int n = 2; n <= 6; n++) {
            Check.due("behind the end of " + n, x.sign(0, n, lengths[n]), Check.NONE);
            Check.due("ahead of " + n, x.sign(0, n, -1), Check.NONE);
            for (int i : Check.FAR) {
                Check.due("far from " + n, x.sign(0, n, i), Check.NONE);
            }
        }
        for (int n : new int[] {0, 1, 7, 8, 9, 10}) {
            Check.due("kind or fault of " + n, x.sign(0, n, 0), Check.NONE);
        }
        Check.due("outside", x.node(0, 10, 5), 1);
        for (int none : NO_NUMBERS) {
            Check.due("node " + none, x.sign(0, none, 0), Check.NONE);
            Check.due("tree " + none, x.sign(none, 2, 0), Check.NONE);
        }
        x.layer(0);
        x.poke(0, 1, 200);
        Check.due("as the image has it", x.sign(0, 2, 0), 200);
        x.poke(0, 4, 0);
        Check.due("also its number", x.sign(0, 3, 0), 0);
        Check.due("as long as it was", x.sign(0, 3, 1), 67);
    }

    private static void letterBounds() {
        Check.says("letter: Letter i of the NAME of a NODE. NONE: none such, another which.");
        OverlayViewer x = Check.laid("struct abcdefgh{u1 a;u1 z9;u1 i2345678;u1 b[1];pad 1;}", 1, 2, 3, 4);
        Check.due("8 letters", Check.name(x, 0, 0, 0), "abcdefgh");
        Check.due("1 letter", Check.name(x, 0, 1, 0), "a");
        Check.due("a digit", Check.name(x, 0, 2, 0), "z9");
        Check.due("8 of both", Check.name(x, 0, 3, 0), "i2345678");
        int[] lengths = {8, 1, 2, 8, 1, 0, 0};
        for (int n = 0; n < lengths.length; n++) {
            Check.due("ahead of " + n, x.letter(0, n, 0, -1), Check.NONE);
            Check.due("behind " + n, x.letter(0, n, 0, lengths[n]), Check.NONE);
            Check.due("9th of " + n, x.letter(0, n, 0, 8), Check.NONE);
            for (int i : Check.FAR) {
                Check.due("far from " + n, x.letter(0, n, 0, i), Check.NONE);
            }
            for (int which : new int[] {-1, 1, 2, Integer.MIN_VALUE, Integer.MAX_VALUE}) {
                Check.due("which " + which + " of " + n, x.letter(0, n, which, 0), Check.NONE);
            }
        }
        for (int none : NO_NUMBERS) {
            Check.due("node " + none, x.letter(0, none, 0, 0), Check.NONE);
            Check.due("tree " + none, x.letter(none, 0, 0, 0), Check.NONE);
        }
        Check.due("node 7", x.letter(0, 7, 0, 0), Check.NONE);
        Check.due("tree 1", x.letter(1, 0, 0, 0), Check.NONE);
    }

    private static void letterOfPairs() {
        Check.says("letter: which 1: of the pair that has its VALUE (the first such; of a WHOLE with is)");
        OverlayViewer x = Check.laid("enum e{zero=0,one=1,uno=1,longname=2}struct t{u1 b is e;}struct s{u1 a is e;t c;u1 d[1];bits u1 f{p:8};"
                + "text g[1];to t h by u1;sum add u1 i of 0,0;u1 j;magic k=1;u2 l is e;u2 m is e;}", 0, 1, 1, 1, 1, 1, 1, 1, 1, 1, 0, 1);
        Check.due("0", Check.name(x, 0, 1, 1), "zero");
        Check.due("the first such", Check.name(x, 0, 3, 1), "one");
        for (int n : new int[] {0, 2, 4, 5, 6, 7, 8, 9, 12, 13, 14}) {
            Check.due("no WHOLE with is: " + n, x.letter(0, n, 1, 0), Check.NONE);
        }
        Check.due("u2", Check.name(x, 0, 15, 1), "one");
        Check.due("the name itself", Check.name(x, 0, 15, 0), "l");
        x.poke(0, 0, 2);
        Check.due("8 letters, of now", Check.name(x, 0, 1, 1), "longname");
        Check.due("9th", x.letter(0, 1, 1, 8), Check.NONE);
        Check.due("ahead", x.letter(0, 1, 1, -1), Check.NONE);
        Check.due("which 2", x.letter(0, 1, 2, 0), Check.NONE);
        Check.due("which -1", x.letter(0, 1, -1, 0), Check.NONE);
        x.poke(0, 0, 3);
        Check.due("no such pair", x.letter(0, 1, 1, 0), Check.NONE);
        x.poke(0, 0, 1);
        Check.due("one", Check.name(x, 0, 1, 1), "one");
    }

    private static void faultsBounds() {
        Check.says("faults: How many NODES have a FAULT; what 1: the first of them (NONE); what 2: how many NODES there are. NONE.");
        OverlayViewer x = Check.laid("struct s{magic a=1;magic b=2;magic c=3;}", 1, 2, 3);
        Check.due("none", x.faults(0, 0), 0);
        Check.due("no first", x.faults(0, 1), Check.NONE);
        Check.due("nodes", x.faults(0, 2), 4);
        x.poke(0, 2, 9);
        x.relay(0);
        Check.due("one", x.faults(0, 0), 1);
        Check.due("the last", x.faults(0, 1), 3);
        x.poke(0, 1, 9);
        x.poke(0, 0, 9);
        x.relay(0);
        Check.due("three", x.faults(0, 0), 3);
        Check.due("the first", x.faults(0, 1), 1);
        for (int what : new int[] {-1, 3, Integer.MIN_VALUE, Integer.MAX_VALUE}) {
            Check.due("what " + what, x.faults(0, what), Check.NONE);
        }
        for (int what = 0; what < 3; what++) {
            Check.due("tree 1", x.faults(1, what), Check.NONE);
            for (int none : NO_NUMBERS) {
                Check.due("tree " + none, x.faults(none, what), Check.NONE);
            }
        }
        OverlayViewer y = Check.laid("struct s{if 1/0:u1 a;}");
        Check.due("NODE 0 itself", y.faults(0, 1), 0);
        Check.due("one", y.faults(0, 0), 1);
        Check.due("one NODE", y.faults(0, 2), 1);
    }

    private static OverlayViewer tree() {
        return Check.laid("struct p{u1 v;u1 w;}struct s{p a[2];bits u1 b{lo:4,hi:4};union u by 1{1:p;};to p w by u1;pad 1;u1 z;}",
                new int[20]);
    }

    private static void findNames() {
        Check.says("find: THE TAPE is a PATH from a TREE's NODE 0 on, of TOKENS: a NAME: the first KID with it");
        OverlayViewer x = tree();
        String[] paths = {"", "  \n", "a", "b", "u", "w", "z", "a p", "a p w", "b lo", "b hi", "u p", "u p w", "w p v", "\na\n  p\nv\n"};
        int[] due = {0, 0, 1, 8, 11, 15, 20, 2, 4, 9, 10, 12, 14, 17, 3};
        for (int i = 0; i < paths.length; i++) {
            Check.due("find '" + paths[i] + "'", Check.find(x, 0, paths[i]), due[i]);
            Check.due("the tape", x.count(1), 0);
        }
    }

    private static void findNumbers() {
        Check.says("find: a NUMBER: that KID");
        OverlayViewer x = tree();
        String[] paths = {"0", "1", "2", "3", "4", "5", "00", "0x5", "0 0", "0 1", "0 1 1", "a 1 w", "a 0x01 1", "3 0 0"};
        int[] due = {1, 8, 11, 15, 19, 20, 1, 20, 2, 5, 7, 7, 7, 17};
        for (int i = 0; i < paths.length; i++) {
            Check.due("find '" + paths[i] + "'", Check.find(x, 0, paths[i]), due[i]);
        }
        OverlayViewer y = Check.laid("struct s{u1 a[200];}", new int[200]);
        Check.due("the last of 200", Check.find(y, 0, "a 199"), 201);
        Check.due("beyond", Check.find(y, 0, "a 200"), -11);
    }

    private static void findFaults() {
        Check.says("find: -10 less the number of the first TOKEN, from 0 on, that is no NAME or NUMBER, or leads to no KID. NONE");
        OverlayViewer x = tree();
        String[] paths = {"6", "x", "a x", "a 2", "a 1 x", "a 1 w 0", "a 1 w w", "u1", "a u1", "if", "a 0 if", "a/0", "-1", "a -1", "[", "a[0]",
            "#", "a #", "a 0 A", "a abcdefghi", "a 1234567890", "0xffffffff", "a 999999999", "a 400", "a 0x100000", "s", "z z", "4 0", "#a"};
        int[] due = {0, 0, 1, 1, 2, 3, 3, 0, 1, 0, 2, 1, 0, 1, 0, 1, 0, 1, 2, 1, 1, 0, 1, 1, 1, 0, 1, 1, 0};
        Check.due("rows", paths.length, due.length);
        for (int i = 0; i < paths.length; i++) {
            Check.due("find '" + paths[i] + "'", Check.find(x, 0, paths[i]), -10 - due[i]);
            Check.due("the tape", x.count(1), 0);
        }
        for (int none : NO_NUMBERS) {
            Check.due("find(" + none + ")", Check.find(x, none, ""), Check.NONE);
        }
        Check.due("a long path", Check.find(x, 0, "a 1 w" + " w".repeat(500)), -13);
    }
}
