/** Promises 30 to 32. */
public final class EditsTest {
    public static void main(String[] args) {
        set();
        setBounds();
        setPart();
        setIsOneWrite();
        put();
        fix();
        fixRefuses();
        fixLeavesOtherFaults();
        Check.end();
    }

    private static void set() {
        OverlayViewer x = Check.viewer("struct t{}struct s{u2 a;u2b b;s1 c;to t d by u1;sum add u1 e of 0,1;bits u2 f{p:1};"
                + "text g[1];u1 h[1];u4 i;}", new int[11]);
        x.lay(0, 1, 0);
        Check.due("u2", x.set(0, 1, 0x1234), 0);
        Check.due("u2b", x.set(0, 2, 0x1234), 0);
        Check.due("s1", x.set(0, 3, -2), 0);
        Check.due("pointer", x.set(0, 4, 9), 0);
        Check.due("sum", x.set(0, 6, 8), 0);
        Check.due("bits", x.set(0, 7, 0x4321), 0);
        Check.due("a whole in an array", x.set(0, 11, 77), 0);
        Check.due("bytes", Check.bytes(x, 0), "52 18 18 52 254 9 8 33 67 0 77");
        Check.due("value", x.value(0, 3), -2);
        Check.due("its fault stays as laid", x.node(0, 6, 5), 0);
        Check.due("its kid stays as laid", x.kid(0, 4, 0), 5);
        Check.due("a struct", x.set(0, 0, 1), Check.KIND);
        Check.due("a text", x.set(0, 9, 1), Check.KIND);
        Check.due("an array", x.set(0, 10, 1), Check.KIND);
        Check.due("outside", x.set(0, 12, -1), Check.OUTSIDE);
        Check.due("no node", x.set(0, 13, 1), Check.NONE);
        Check.due("no node", x.set(0, -1, 1), Check.NONE);
        Check.due("no tree", x.set(1, 0, 1), Check.NONE);
        OverlayViewer y = Check.viewer("struct p{}struct s{magic m=1;union u by 1{1:p;};pad 2;}", 1, 2);
        y.lay(0, 1, 0);
        for (int n = 0; n < 5; n++) {
            Check.due("kind of " + n, y.set(0, n, 1), Check.KIND);
        }
    }

    private static void bounds(OverlayViewer x, int n, long least, long most) {
        Check.due("least of " + n, x.set(0, n, least), 0);
        Check.due("least of " + n, x.value(0, n), least);
        Check.due("most of " + n, x.set(0, n, most), 0);
        Check.due("most of " + n, x.value(0, n), most);
        if (least != Long.MIN_VALUE) {
            Check.due("below of " + n, x.set(0, n, least - 1), Check.RANGE);
            Check.due("beyond of " + n, x.set(0, n, most + 1), Check.RANGE);
            Check.due("far below of " + n, x.set(0, n, Long.MIN_VALUE), Check.RANGE);
            Check.due("far beyond of " + n, x.set(0, n, Long.MAX_VALUE), Check.RANGE);
        }
    }

    private static void setBounds() {
        OverlayViewer x = new OverlayViewer();
        Check.filled(x, 80, 0);
        Check.describe(x, "struct s{u1 a;s1b b;u4b c;s4 d;u7 e;s7b f;u8 g;s8b h;bits s2 i{p:3,q:13};bits u8 j{r:64};}");
        x.lay(0, 0, 0);
        bounds(x, 1, 0, 255);
        bounds(x, 2, -128, 127);
        bounds(x, 3, 0, 0xffffffffL);
        bounds(x, 4, -0x80000000L, 0x7fffffffL);
        bounds(x, 5, 0, (1L << 56) - 1);
        bounds(x, 6, -(1L << 55), (1L << 55) - 1);
        bounds(x, 7, Long.MIN_VALUE, Long.MAX_VALUE);
        bounds(x, 8, Long.MIN_VALUE, Long.MAX_VALUE);
        bounds(x, 9, 0, 65535);
        bounds(x, 10, 0, 7);
        bounds(x, 11, 0, 8191);
        bounds(x, 12, Long.MIN_VALUE, Long.MAX_VALUE);
        bounds(x, 13, Long.MIN_VALUE, Long.MAX_VALUE);
    }

    private static void setPart() {
        OverlayViewer x = Check.viewer("struct s{bits u2b b{p:3,q:6};bits u8 c{r:1,t:63};}", 0xff, 0xff, 1, 0, 0, 0, 0, 0, 0, 0);
        x.lay(0, 0, 0);
        Check.due("part", x.set(0, 3, 1), 0);
        Check.due("the other bits are as they were", x.value(0, 1), 0xfe0f);
        Check.due("highest byte first", x.at(0, 0), 0xfe);
        Check.due("part of 63", x.set(0, 6, Long.MAX_VALUE), 0);
        Check.due("part of 63", x.value(0, 4), -1);
        Check.due("part of 63, below 0", x.set(0, 6, -1), Check.RANGE);
        Check.due("part of 1", x.set(0, 5, 2), Check.RANGE);
        Check.due("part of 1", x.set(0, 5, 0), 0);
        Check.due("all", x.value(0, 4), -2);
    }

    private static void setIsOneWrite() {
        OverlayViewer x = Check.viewer("struct s{u4 a;bits u2 b{p:1};}", 1, 2, 3, 4, 5, 6);
        x.lay(0, 0, 0);
        x.layer(0);
        Check.due("the same value", x.set(0, 1, 0x04030201), 0);
        Check.due("is one write", x.count(7), 1);
        Check.due("has its bytes", x.changed(0, 3), 3);
        x.set(0, 3, 0);
        Check.due("a part's are those of its bits", x.changed(0, 5), 5);
        Check.due("has", x.at(0, 4), 4);
        Check.due("undo a part", x.undo(0), 2);
        Check.due("has", x.at(0, 4), 5);
        Check.due("undo a whole", x.undo(0), 4);
        Check.due("nothing is left", x.changed(0, 0), Check.NONE);
        x.set(0, 1, -1);
        Check.due("a refusal is no write", x.count(7), 0);
    }

    private static void put() {
        OverlayViewer x = Check.viewer("struct s{text a[2];text b until 9;text c[0-1];u1 d;text e[5];}", 1, 2, 3, 9, 5);
        x.lay(0, 0, 0);
        Check.due("put", x.put(0, 1, 1, 255), 0);
        Check.due("put until", x.put(0, 2, 0, 8), 0);
        Check.due("bytes", Check.bytes(x, 0), "1 255 8 9 5");
        Check.due("put its number", x.put(0, 2, 0, 9), Check.RANGE);
        Check.due("put it without until", x.put(0, 1, 0, 9), 0);
        Check.due("until, its last", x.put(0, 2, 1, 8), Check.RANGE);
        Check.due("byte 2", x.put(0, 1, 2, 8), Check.RANGE);
        Check.due("byte -1", x.put(0, 1, -1, 8), Check.RANGE);
        Check.due("b 256", x.put(0, 1, 0, 256), Check.RANGE);
        Check.due("b -1", x.put(0, 1, 0, -1), Check.RANGE);
        Check.due("a text with fault 5", x.put(0, 3, 0, 1), Check.RANGE);
        Check.due("a whole", x.put(0, 4, 0, 999), Check.KIND);
        Check.due("outside", x.put(0, 5, 0, 999), Check.OUTSIDE);
        Check.due("no node", x.put(0, 6, 0, 1), Check.NONE);
        Check.due("no tree", x.put(1, 0, 0, 1), Check.NONE);
        x.layer(0);
        x.put(0, 1, 0, 9);
        Check.due("a write", x.count(7), 1);
        Check.due("undo", x.undo(0), 1);
    }

    private static void fix() {
        OverlayViewer x = Check.viewer("struct s{u1 n;u1 a;u1 b;sum add u2b c of 0,n;sum ones u1 d of 0,n;}",
                3, 200, 100, 0, 0, 0);
        x.lay(0, 0, 0);
        Check.due("faults", Check.faults(x, 0), "0 0 0 0 3 3");
        x.layer(0);
        Check.due("fix", x.fix(0, 4), 0);
        Check.due("bytes", x.value(0, 4), 303);
        Check.due("its fault is gone", x.node(0, 4, 5), 0);
        Check.due("faults", x.faults(0, 0), 1);
        Check.due("fix ones", x.fix(0, 5), 0);
        Check.due("ones", x.value(0, 5), 208);
        Check.due("writes", x.count(7), 2);
        // by what is there now
        x.poke(0, 0, 2);
        Check.due("fix by now's n", x.fix(0, 4), 0);
        Check.due("value", x.value(0, 4), 202);
        Check.due("fix what is right", x.fix(0, 4), 0);
        Check.due("is a write, too", x.count(7), 5);
        Check.due("undo", x.undo(0), 2);
    }

    private static void fixRefuses() {
        OverlayViewer x = Check.viewer("struct s{u1 n;sum add u1 c of n,4;sum add u1 d of 0,1/n;sum add u1 e of 0,left+here;sum add u4 f of 0,0;}",
                0, 0, 0, 0);
        x.lay(0, 0, 0);
        Check.due("faults", Check.faults(x, 0), "0 0 0 6 0 1");
        Check.due("it fails", x.fix(0, 3), Check.RANGE);
        x.poke(0, 0, 5);
        Check.due("b below a", x.fix(0, 2), Check.RANGE);
        Check.due("now it does not fail", x.fix(0, 3), 0);
        Check.due("outside", x.fix(0, 5), Check.OUTSIDE);
        Check.due("a whole", x.fix(0, 1), Check.KIND);
        Check.due("a struct", x.fix(0, 0), Check.KIND);
        Check.due("no node", x.fix(0, 6), Check.NONE);
        Check.due("no tree", x.fix(1, 0), Check.NONE);
        x.push(0, 7, 1);
        // left and here are the length, that of now
        Check.due("fix with the length of now", x.fix(0, 4), 0);
        Check.due("value", x.value(0, 4), 5 + 7);
    }

    private static void fixLeavesOtherFaults() {
        OverlayViewer x = Check.viewer("struct s{u1 n;sum add u1 c of n,2;}", 3, 0, 0);
        x.lay(0, 0, 0);
        Check.due("fault 5", x.node(0, 2, 5), 5);
        x.poke(0, 0, 0);
        Check.due("fix", x.fix(0, 2), 0);
        Check.due("fault 5 stays", x.node(0, 2, 5), 5);
        x.relay(0);
        Check.due("laid anew it has none", x.node(0, 2, 5), 0);
    }
}
