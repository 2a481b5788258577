/** Promises 30 to 32: set, put, fix; each sentence that names a bound. */
public final class EditBoundsTest {
    private static final int[] NO_NUMBERS = {-1, 400, Integer.MIN_VALUE, Integer.MAX_VALUE};
    /** A field of each KIND, of NODES 0 to 15; each test adds one that is OUTSIDE, NODE 16. */
    private static final String EACH_KIND = "struct t{u1 v;}struct s{u1 a;u1 b[1];bits u1 c{p:4};text d[1];union e by 1{1:t;};to t f by u1;"
            + "pad 1;magic g=0;sum add u1 h of 0,0;";

    public static void main(String[] args) {
        setOfWholes();
        setOfOthers();
        setOfParts();
        setWritesItsBytes();
        setRefusals();
        setOutside();
        putBounds();
        putUntil();
        putRefusals();
        fixMakesDue();
        fixFault();
        fixByNow();
        fixRefusals();
        fixDistances();
        Check.end();
    }

    /** v is taken, and is the VALUE then. */
    private static void takes(OverlayViewer x, int n, long v) {
        Check.due("set(0, " + n + ", " + v + ")", x.set(0, n, v), 0);
        Check.due("value of " + n, x.value(0, n), v);
    }

    private static void refuses(OverlayViewer x, int n, long v) {
        long ahead = x.value(0, n);
        Check.due("set(0, " + n + ", " + v + ")", x.set(0, n, v), Check.RANGE);
        Check.due("it stays", x.value(0, n), ahead);
    }

    private static void bounds(OverlayViewer x, int n, long least, long most) {
        takes(x, n, least);
        takes(x, n, most);
        takes(x, n, least == 0 ? 1 : -1);
        takes(x, n, 0);
        refuses(x, n, least - 1);
        refuses(x, n, most + 1);
        refuses(x, n, Long.MIN_VALUE);
        if (most != Long.MAX_VALUE) {
            refuses(x, n, Long.MAX_VALUE);
        }
        if (least == 0) {
            refuses(x, n, -1);
            refuses(x, n, -most);
        }
    }

    private static void any(OverlayViewer x, int n) {
        for (long v : new long[] {0, 1, -1, Long.MIN_VALUE, Long.MAX_VALUE, Long.MIN_VALUE + 1, 0x0102030405060708L}) {
            takes(x, n, v);
        }
    }

    private static void setOfWholes() {
        Check.says("set: RANGE: it can't have it (of w BYTES, u: 0 .. 2^(8w) - 1; s: -2^(8w - 1) .. 2^(8w - 1) - 1; of 8: any)");
        for (int w = 1; w <= 8; w++) {
            OverlayViewer x = Check.laid("struct s{u" + w + " a;u" + w + "b b;s" + w + " c;s" + w + "b d;u" + w + " e[2];s" + w + " f[1];}",
                    new int[7 * w]);
            int[] unsigned = {1, 2, 6, 7};
            int[] signed = {3, 4, 9};
            for (int n : unsigned) {
                if (w == 8) {
                    any(x, n);
                } else {
                    bounds(x, n, 0, (1L << 8 * w) - 1);
                }
            }
            for (int n : signed) {
                if (w == 8) {
                    any(x, n);
                } else {
                    bounds(x, n, -(1L << 8 * w - 1), (1L << 8 * w - 1) - 1);
                }
            }
        }
        OverlayViewer x = Check.laid("enum e{v=1}struct s{u1 a is e;}", 1);
        takes(x, 1, 255);
        refuses(x, 1, 256);
        Check.due("its fault stays as laid", x.node(0, 1, 5), 0);
    }

    private static void setOfOthers() {
        Check.says("set: of w BYTES, u and BITS: 0 .. 2^(8w) - 1; s: .. (POINTER, SUM by their WHOLES)");
        for (int w = 1; w <= 8; w++) {
            OverlayViewer x = Check.laid("struct t{}struct s{bits u" + w + " a{p:1};bits s" + w + "b b{q:1};to t c by u" + w + ";to t d by s" + w
                    + "b;sum add u" + w + "b e of 0,0;sum add s" + w + " f of 0,0;}", new int[6 * w]);
            // the POINTERS aim at 0, so each has a KID
            int[] unsigned = {1, 3, 5, 9};
            int[] signed = {7, 10};
            for (int n : unsigned) {
                if (w == 8) {
                    any(x, n);
                } else {
                    bounds(x, n, 0, (1L << 8 * w) - 1);
                }
            }
            for (int n : signed) {
                if (w == 8) {
                    any(x, n);
                } else {
                    bounds(x, n, -(1L << 8 * w - 1), (1L << 8 * w - 1) - 1);
                }
            }
        }
    }

    private static void setOfParts() {
        Check.says("set: a PART of b bits: 0 .. 2^b - 1, of 64: any; (of a PART those of its BITS, with the other bits as they are)");
        for (int b = 1; b < 64; b++) {
            for (String type : new String[] {"u8", "s8b"}) {
                OverlayViewer x = Check.laid("struct s{bits " + type + " a{p:" + b + ",q:" + (64 - b) + "};}", 255, 255, 255, 255, 255, 255, 255, 255);
                bounds(x, 2, 0, (1L << b) - 1);
                Check.due("the other one of " + b, x.value(0, 3), (1L << 64 - b) - 1);
                Check.due("all of it", x.value(0, 1), -1L << b);
                x.set(0, 2, (1L << b) - 1);
                bounds(x, 3, 0, (1L << 64 - b) - 1);
                Check.due("the other one of " + b, x.value(0, 2), (1L << b) - 1);
                Check.due("all of it", x.value(0, 1), (1L << b) - 1);
            }
        }
        OverlayViewer x = Check.laid("struct s{bits u8b a{p:64};bits u1 b{q:2,r:3};}", new int[9]);
        any(x, 2);
        x.poke(0, 8, 0xff);
        bounds(x, 4, 0, 3);
        Check.due("with the other bits", x.at(0, 8), 0xfc);
        bounds(x, 5, 0, 7);
        Check.due("with the other bits, also those of no PART", x.at(0, 8), 0xe0);
    }

    private static void setWritesItsBytes() {
        Check.says("set: A NODE's VALUE becomes v: its BYTES are WRITTEN: 0.");
        OverlayViewer x = Check.laid("struct s{u1 h;u3 a;u3b b;s2b c;}", new int[10]);
        Check.due("u3", x.set(0, 2, 0x010203), 0);
        Check.due("u3b", x.set(0, 3, 0x010203), 0);
        Check.due("s2b", x.set(0, 4, -2), 0);
        Check.due("bytes", Check.bytes(x, 0), "0 3 2 1 1 2 3 255 254 0");
        x.layer(0);
        x.set(0, 2, 0x010203);
        Check.due("undo", x.undo(0), 3);
        Check.due("the last place", x.set(0, 4, 5), 0);
        Check.due("changed", x.changed(0, 1), 8);
        Check.due("no more", x.changed(0, 2), Check.NONE);
    }

    private static void setRefusals() {
        Check.says("set: NONE; KIND: no WHOLE, BITS, PART, POINTER, SUM; OUTSIDE; RANGE");
        OverlayViewer x = Check.laid(EACH_KIND + "u8 i;}", new int[12]);
        int[] kinds = {0, 1, 2, 1, 3, 4, 5, 6, 0, 1, 7, 0, 1, 8, 9, 10, 1};
        Check.due("nodes", x.faults(0, 2), kinds.length);
        for (int n = 0; n < kinds.length - 1; n++) {
            boolean can = kinds[n] == 1 || kinds[n] == 3 || kinds[n] == 4 || kinds[n] == 7 || kinds[n] == 10;
            Check.due("set of " + n, x.set(0, n, 3), can ? 0 : Check.KIND);
            Check.due("KIND ahead of RANGE, " + n, x.set(0, n, -1), can ? Check.RANGE : Check.KIND);
        }
        for (int none : NO_NUMBERS) {
            Check.due("node " + none, x.set(0, none, -1), Check.NONE);
            Check.due("tree " + none, x.set(none, 1, -1), Check.NONE);
        }
        Check.due("node 17", x.set(0, 17, 1), Check.NONE);
        Check.due("tree 1", x.set(1, 1, 1), Check.NONE);
        Check.due("tree 1 and no KIND", x.set(1, 0, 1), Check.NONE);
    }

    private static void setOutside() {
        Check.says("OUTSIDE it has FAULT 1");
        for (String field : new String[] {"u2 a;", "bits u2 a{p:1};", "to s a by u2;", "sum add u2 a of 0,0;", "u2 a[1];"}) {
            OverlayViewer x = Check.laid("struct s{u1 h;" + field + "}", 1, 2);
            int n = x.faults(0, 1);
            Check.due("fault 1", x.node(0, n, 5), 1);
            Check.due("set " + field, x.set(0, n, 0), Check.OUTSIDE);
            Check.due("OUTSIDE ahead of RANGE", x.set(0, n, -1), Check.OUTSIDE);
            x.push(0, 0, 8);
            Check.due("it stays outside", x.set(0, n, 0), Check.OUTSIDE);
            Check.due("bytes", Check.bytes(x, 0), "1 2 0 0 0 0 0 0 0 0");
            x.relay(0);
            Check.due("laid anew", x.set(0, n, 0x0101), 0);
        }
        OverlayViewer x = Check.laid("enum e{v=1}struct s{u1 a is e;to s b by u1;sum add u1 c of 0,0;sum add u1 d of 1,0;}", 9, 99, 3, 4);
        for (int n = 1; n <= 4; n++) {
            Check.due("other faults, " + n, x.set(0, n, 77), 0);
        }
    }

    private static void putBounds() {
        Check.says("put: BYTE i of a TEXT is WRITTEN: 0. RANGE: it has no such BYTE, b is not 0 .. 255");
        OverlayViewer x = Check.laid("struct s{u1 h;text a[3];text b[0];text c[0-1];text d[1/0];}", 1, 2, 3, 4, 5);
        Check.due("the first", x.put(0, 2, 0, 0), 0);
        Check.due("the last", x.put(0, 2, 2, 255), 0);
        Check.due("bytes", Check.bytes(x, 0), "1 0 3 255 5");
        Check.due("i -1", x.put(0, 2, -1, 7), Check.RANGE);
        Check.due("i 3", x.put(0, 2, 3, 7), Check.RANGE);
        Check.due("b -1", x.put(0, 2, 0, -1), Check.RANGE);
        Check.due("b 256", x.put(0, 2, 0, 256), Check.RANGE);
        for (int far : Check.FAR) {
            Check.due("i " + far, x.put(0, 2, far, 7), Check.RANGE);
            Check.due("b " + far, x.put(0, 2, 0, far), Check.RANGE);
        }
        for (int n = 3; n <= 5; n++) {
            Check.due("an empty one", x.put(0, n, 0, 7), Check.RANGE);
            Check.due("an empty one", x.put(0, n, -1, 7), Check.RANGE);
        }
        Check.due("bytes", Check.bytes(x, 0), "1 0 3 255 5");
    }

    private static void putUntil() {
        Check.says("put: RANGE: it has no such BYTE (of until, not its last one), b is not 0 .. 255, or (until) its NUMBER");
        for (int number : new int[] {0, 9, 255}) {
            OverlayViewer x = Check.laid("struct s{text a until " + number + ";text b[2];text c until " + number + ";}",
                    1, 2, number, 3, number, number);
            Check.due("the first", x.put(0, 1, 0, 5), 0);
            Check.due("the last but one", x.put(0, 1, 1, 6), 0);
            Check.due("the last", x.put(0, 1, 2, 7), Check.RANGE);
            Check.due("beyond", x.put(0, 1, 3, 7), Check.RANGE);
            Check.due("ahead", x.put(0, 1, -1, 7), Check.RANGE);
            Check.due("its number", x.put(0, 1, 0, number), Check.RANGE);
            for (int b : new int[] {0, 1, 8, 10, 254, 255}) {
                Check.due("b " + b, x.put(0, 1, 0, b), b == number ? Check.RANGE : 0);
            }
            Check.due("b -1", x.put(0, 1, 0, -1), Check.RANGE);
            Check.due("b 256", x.put(0, 1, 0, 256), Check.RANGE);
            Check.due("without until that is free", x.put(0, 2, 0, number), 0);
            Check.due("0 too", x.put(0, 2, 1, 0), 0);
            Check.due("an empty one", x.put(0, 3, 0, 7), Check.RANGE);
            Check.due("sign", x.sign(0, 1, 1), 6);
        }
    }

    private static void putRefusals() {
        Check.says("put: NONE; KIND; OUTSIDE; RANGE");
        OverlayViewer x = Check.laid(EACH_KIND + "text i until 7;}", new int[14]);
        for (int n = 0; n < x.faults(0, 2); n++) {
            boolean text = x.node(0, n, 0) == 5;
            int due = text ? x.node(0, n, 5) == 1 ? Check.OUTSIDE : 0 : Check.KIND;
            Check.due("put of " + n, x.put(0, n, 0, 3), due);
            Check.due("ahead of RANGE, " + n, x.put(0, n, 0, 256), due == 0 ? Check.RANGE : due);
            Check.due("ahead of RANGE, " + n, x.put(0, n, 9, 3), due == 0 ? Check.RANGE : due);
        }
        Check.due("the last is outside", x.put(0, 16, 0, 3), Check.OUTSIDE);
        for (int none : NO_NUMBERS) {
            Check.due("node " + none, x.put(0, none, 9, 256), Check.NONE);
            Check.due("tree " + none, x.put(none, 6, 9, 256), Check.NONE);
        }
        Check.due("node 17", x.put(0, 17, 0, 3), Check.NONE);
        Check.due("tree 1", x.put(1, 6, 0, 3), Check.NONE);
        OverlayViewer y = Check.laid("struct s{text a[3];}", 1, 2);
        Check.due("outside", y.put(0, 1, 0, 3), Check.OUTSIDE);
        y.push(0, 3, 1);
        Check.due("it stays outside", y.put(0, 1, 0, 3), Check.OUTSIDE);
        Check.due("bytes", Check.bytes(y, 0), "1 2 3");
    }

    private static void fixMakesDue() {
        Check.says("fix: A SUM is made its DUE: its BYTES are WRITTEN: 0");
        OverlayViewer x = Check.laid("struct s{text h[3];sum add u2 a of 0,3;sum add u2b b of 0,3;sum add u1 c of 0,3;}",
                255, 255, 3, 9, 9, 9, 9, 9, 9);
        x.layer(0);
        for (int n = 2; n <= 4; n++) {
            Check.due("fix", x.fix(0, n), 0);
        }
        Check.due("bytes", Check.bytes(x, 0), "255 255 3 1 2 2 1 1 9");
        Check.due("writes", x.count(7), 3);
        Check.due("once more", x.fix(0, 4), 0);
        Check.due("is a write, too", x.count(7), 4);
        int[] widths = {1, 1, 2, 2, 0};
        for (int width : widths) {
            Check.due("undo", x.undo(0), width);
        }
        Check.due("bytes", Check.bytes(x, 0), "255 255 3 9 9 9 9 9 9");
        Check.due("the fault is not taken back", x.faults(0, 0), 0);
    }

    private static void fixFault() {
        Check.says("fix: if its FAULT is 3 it has none then");
        OverlayViewer x = Check.laid("struct s{u1 n;sum add u1 a of 0,n;sum add u1 b of n,2;sum add u1 c of 0,6/n;sum add u1 d of 0,1;}",
                3, 0, 0, 0, 3);
        Check.due("faults", Check.faults(x, 0), "0 0 3 5 3 0");
        Check.due("fix 3", x.fix(0, 2), 0);
        Check.due("none then", Check.faults(x, 0), "0 0 0 5 3 0");
        Check.due("fix none", x.fix(0, 5), 0);
        Check.due("none then", x.node(0, 5, 5), 0);
        Check.due("fix 5 that stays so", x.fix(0, 3), Check.RANGE);
        x.poke(0, 0, 2);
        Check.due("fix what was 5", x.fix(0, 3), 0);
        Check.due("5 stays", Check.faults(x, 0), "0 0 0 5 3 0");
        Check.due("how many", x.faults(0, 0), 2);
        x.poke(0, 0, 0);
        x.relay(0);
        Check.due("laid anew", x.node(0, 4, 5), 6);
        x.poke(0, 0, 3);
        Check.due("fix what was 6", x.fix(0, 4), 0);
        Check.due("6 stays", x.node(0, 4, 5), 6);
        x.poke(0, 0, 0);
        Check.due("it fails", x.fix(0, 4), Check.RANGE);
    }

    private static void fixByNow() {
        Check.says("fix: The expr's are worked out as when it was laid, by what is there now.");
        OverlayViewer x = Check.viewer("struct s{u1 n;sum add u1 a of here-begin-1,n;sum add u1 b of 0,left;text t[3];}", 9, 1, 0, 0, 10, 20, 30, 40);
        x.lay(0, 0, 1);
        Check.due("fix a", x.fix(0, 2), 0);
        Check.due("distance 0", x.value(0, 2), 1);
        x.poke(0, 1, 5);
        Check.due("fix a by another n", x.fix(0, 2), 0);
        Check.due("distances 0, 2, 3, 4", x.value(0, 2), 5 + 0 + 10 + 20);
        Check.due("left is 5", x.fix(0, 3), 0);
        Check.due("distances 0, 1, 3, 4", x.value(0, 3), 5 + 35 + 10 + 20);
        x.push(0, 50, 1);
        Check.due("left is 6", x.fix(0, 3), 0);
        Check.due("distances 0, 1, 3, 4, 5", x.value(0, 3), 5 + 35 + 10 + 20 + 30);
        x.layer(0);
        x.poke(0, 4, 11);
        Check.due("what the image has", x.fix(0, 3), 0);
        Check.due("distance 3 is another", x.value(0, 3), 101);
        // a field that was not laid is not there, whatever its if would give now
        OverlayViewer y = Check.laid("struct s{u1 n;if n:u1 m;sum add u1 a of 0,m;}", 0, 0, 5);
        Check.due("laid", y.node(0, 2, 5), 6);
        y.poke(0, 0, 1);
        Check.due("m is not there", y.fix(0, 2), Check.RANGE);
        y.relay(0);
        Check.due("m is there", y.fix(0, 3), 0);
    }

    private static void fixRefusals() {
        Check.says("fix: NONE; KIND; OUTSIDE; RANGE: one FAILS, or they are such as with FAULT 5.");
        OverlayViewer x = Check.laid(EACH_KIND + "sum add u8 i of 1/0,0;}", new int[12]);
        for (int n = 0; n < x.faults(0, 2); n++) {
            boolean sum = x.node(0, n, 0) == 10;
            int due = sum ? x.node(0, n, 5) == 1 ? Check.OUTSIDE : 0 : Check.KIND;
            Check.due("fix of " + n, x.fix(0, n), due);
        }
        Check.due("OUTSIDE ahead of RANGE", x.fix(0, 16), Check.OUTSIDE);
        x.push(0, 0, 8);
        Check.due("it stays outside", x.fix(0, 16), Check.OUTSIDE);
        x.relay(0);
        Check.due("laid anew it fails", x.fix(0, 16), Check.RANGE);
        for (int none : NO_NUMBERS) {
            Check.due("node " + none, x.fix(0, none), Check.NONE);
            Check.due("tree " + none, x.fix(none, 15), Check.NONE);
        }
        Check.due("node 17", x.fix(0, 17), Check.NONE);
        Check.due("tree 1", x.fix(1, 15), Check.NONE);
    }

    private static void fixDistances() {
        Check.says("fix: RANGE: one FAILS, or they are such as with FAULT 5 (a below 0, b below a, or FROM of the STRUCT and b beyond LENGTH)");
        OverlayViewer x = Check.viewer("struct s{s1 a;s1 b;u1 c;sum add u1 d of a,b;sum xor u1 e of 6/c,6/c;}", 9, 0, 0, 1, 0, 0, 7, 8);
        x.lay(0, 0, 1);
        // the STRUCT is at 1 in 8 BYTES: distances up to 7
        int[][] pairs = {{0, 0}, {0, 7}, {7, 7}, {6, 7}, {3, 3}, {0, 8}, {8, 8}, {-1, 0}, {-1, -1}, {3, 2}, {127, 127}, {-128, 127}, {0, -128}};
        boolean[] fine = {true, true, true, true, true, false, false, false, false, false, false, false, false};
        for (int i = 0; i < pairs.length; i++) {
            x.set(0, 1, pairs[i][0]);
            x.set(0, 2, pairs[i][1]);
            Check.due("fix of " + pairs[i][0] + "," + pairs[i][1], x.fix(0, 4), fine[i] ? 0 : Check.RANGE);
        }
        Check.due("6/1", x.fix(0, 5), 0);
        x.set(0, 3, 0);
        Check.due("6/0", x.fix(0, 5), Check.RANGE);
        x.push(0, 1, 1);
        x.set(0, 1, 0);
        x.set(0, 2, 8);
        Check.due("8 in a longer image", x.fix(0, 4), 0);
    }
}
