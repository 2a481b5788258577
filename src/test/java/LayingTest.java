/** How structures are LAID: the KINDS, their FAULTS, names; the EXPRESSIONS in them (promises 18, 21, 23). */
public final class LayingTest {
    public static void main(String[] args) {
        wholes();
        enums();
        outsideEndsAStruct();
        arrays();
        arrayOutside();
        arraysThatFill();
        bits();
        texts();
        unions();
        pointers();
        pointersInRings();
        depth();
        pads();
        magics();
        sums();
        sumFaults();
        conditions();
        expressions();
        names();
        Check.end();
    }

    // the rows are: kind, from, to, parent, kids, fault, met, structure, value

    private static void wholes() {
        OverlayViewer x = Check.laid("struct s{u2 a;u2b b;s2 c;s2b d;u1 e;s1 f;u3b g;}",
                1, 2, 1, 2, 255, 254, 255, 254, 200, 200, 1, 2, 3);
        Check.nodes(x, "0 0 13 -1 7 0 0 0 0", "1 0 2 0 0 0 0 -1 513", "1 2 4 0 0 0 0 -1 258", "1 4 6 0 0 0 0 -1 -257",
                "1 6 8 0 0 0 0 -1 -2", "1 8 9 0 0 0 0 -1 200", "1 9 10 0 0 0 0 -1 -56", "1 10 13 0 0 0 0 -1 66051");
        x = Check.laid("struct s{u8 a;u8b b;s8 c;}", 0, 0, 0, 0, 0, 0, 0, 128, 255, 255, 255, 255, 255, 255, 255, 255,
                254, 255, 255, 255, 255, 255, 255, 255);
        Check.due("u8 from 2^63 on", x.value(0, 1), Long.MIN_VALUE);
        Check.due("u8b from 2^63 on", x.value(0, 2), -1);
        Check.due("s8", x.value(0, 3), -2);
    }

    private static void enums() {
        OverlayViewer x = Check.laid("enum e{a=1,b=-1,c=1,d=0xffffffff}struct s{u1 a is e;s1 b is e;u1 c is e;u4 d is e;}",
                1, 255, 255, 255, 255, 255, 255);
        Check.due("faults", Check.faults(x, 0), "0 0 0 4 0");
        Check.due("first pair with it", Check.name(x, 0, 1, 1), "a");
        Check.due("pair", Check.name(x, 0, 2, 1), "b");
        Check.due("no pair", Check.name(x, 0, 3, 1), "");
        Check.due("pair", Check.name(x, 0, 4, 1), "d");
    }

    private static void outsideEndsAStruct() {
        OverlayViewer x = Check.laid("struct t{u1 a;u4 b;u1 c;}struct s{t x;u1 y;u2 z;u1 w;}", 1, 2, 3);
        Check.nodes(x, "0 0 2 -1 3 0 0 1 0", "0 0 1 0 2 0 0 0 0", "1 0 1 1 0 0 0 -1 1", "1 1 1 1 0 1 0 -1 0",
                "1 1 2 0 0 0 0 -1 2", "1 2 2 0 0 1 0 -1 0");
        x = Check.laid("struct s{u1 a;}", new int[0]);
        Check.nodes(x, "0 0 0 -1 1 0 0 0 0", "1 0 0 0 0 1 0 -1 0");
        x = Check.laid("struct s{magic m=1 2;u1 a;}", 1);
        Check.nodes(x, "0 0 0 -1 1 0 0 0 0", "9 0 0 0 0 1 0 -1 0");
        x = Check.laid("struct s{u1 a;bits u2 m{p:1};u1 b;}", 1, 2);
        Check.nodes(x, "0 0 1 -1 2 0 0 0 0", "1 0 1 0 0 0 0 -1 1", "3 1 1 0 0 1 0 -1 0");
        x = Check.laid("struct s{to s p by u4;u1 b;}", 1, 2);
        Check.nodes(x, "0 0 0 -1 1 0 0 0 0", "7 0 0 0 0 1 0 -1 0");
        x = Check.laid("struct s{sum add u4 p of 1/0,2;u1 b;}", 1, 2);
        Check.nodes(x, "0 0 0 -1 1 0 0 0 0", "10 0 0 0 0 1 0 -1 0");
    }

    private static void arrays() {
        OverlayViewer x = Check.laid("struct t{u1 v;}struct s{u1 n;u2b a[n];t b[n-1];u1 c[0];}", 2, 1, 2, 3, 4, 9);
        Check.nodes(x, "0 0 6 -1 4 0 0 1 0", "1 0 1 0 0 0 0 -1 2", "2 1 5 0 2 0 0 -1 2", "1 1 3 2 0 0 0 -1 258",
                "1 3 5 2 0 0 0 -1 772", "2 5 6 0 1 0 0 -1 1", "0 5 6 5 1 0 0 0 0", "1 5 6 6 0 0 0 -1 9",
                "2 6 6 0 0 0 0 -1 0");
        x = Check.laid("struct s{u1 a[-1];u1 b[201];u1 c[1/0];u1 d;}", 5);
        Check.nodes(x, "0 0 1 -1 4 0 0 0 0", "2 0 0 0 0 5 0 -1 0", "2 0 0 0 0 5 0 -1 0", "2 0 0 0 0 6 0 -1 0",
                "1 0 1 0 0 0 0 -1 5");
    }

    private static void arrayOutside() {
        OverlayViewer x = Check.laid("struct s{u2 a[5];u1 b;}", 1, 0, 2, 0, 3);
        Check.nodes(x, "0 0 4 -1 1 0 0 0 0", "2 0 4 0 3 0 0 -1 3", "1 0 2 1 0 0 0 -1 1", "1 2 4 1 0 0 0 -1 2",
                "1 4 4 1 0 1 0 -1 0");
        // STRUCTS that end early do not end the array, nor the fields behind it
        x = Check.laid("struct t{u2 v;}struct s{t a[3];u1 b;}", 1, 0, 2);
        Check.nodes(x, "0 0 3 -1 2 0 0 1 0", "2 0 2 0 3 0 0 -1 3", "0 0 2 1 1 0 0 0 0", "1 0 2 2 0 0 0 -1 1",
                "0 2 2 1 1 0 0 0 0", "1 2 2 4 0 1 0 -1 0", "0 2 2 1 1 0 0 0 0", "1 2 2 6 0 1 0 -1 0",
                "1 2 3 0 0 0 0 -1 2");
    }

    private static void arraysThatFill() {
        OverlayViewer x = Check.laid("struct t{u1 a;u1 b;}struct s{u1 n;t a[];u1 c[];u1 d;}", 1, 2, 3, 4, 5, 6);
        Check.due("as many as go", Check.node(x, 0, 2), "2 1 5 0 2 0 0 -1 2");
        Check.due("the rest", Check.node(x, 0, 9), "2 5 6 0 1 0 0 -1 1");
        Check.due("behind it", Check.node(x, 0, 11), "1 6 6 0 0 1 0 -1 0");
        OverlayViewer y = new OverlayViewer();
        Check.filled(y, 250, 7);
        Check.describe(y, "struct s{u1 a[];u2 b[];u1 c;}");
        y.lay(0, 0, 0);
        Check.due("200 at most", Check.node(y, 0, 1), "2 0 200 0 200 0 0 -1 200");
        Check.due("25 more", Check.node(y, 0, 202), "2 200 250 0 25 0 0 -1 25");
    }

    private static void bits() {
        OverlayViewer x = Check.laid("struct s{bits u2b b{p:3,q:5,r:8};bits s1 c{v:1};bits u8 d{lo:1,hi:63};}",
                0xab, 0xcd, 0xff, 1, 0, 0, 0, 0, 0, 0, 0x80);
        Check.nodes(x, "0 0 11 -1 3 0 0 0 0", "3 0 2 0 3 0 0 -1 43981", "4 0 2 1 0 0 0 -1 5", "4 0 2 1 0 0 0 -1 25",
                "4 0 2 1 0 0 0 -1 171", "3 2 3 0 1 0 0 -1 255", "4 2 3 5 0 0 0 -1 1",
                "3 3 11 0 2 0 0 -1 " + (Long.MIN_VALUE + 1), "4 3 11 7 0 0 0 -1 1",
                "4 3 11 7 0 0 0 -1 " + (1L << 62));
        x = Check.laid("struct s{bits u8b b{p:64};}", 0x80, 0, 0, 0, 0, 0, 0, 2);
        Check.due("a part of 64", x.value(0, 2), Long.MIN_VALUE + 2);
    }

    private static void texts() {
        OverlayViewer x = Check.laid("struct s{u1 n;text a[n];text b until 0;text c[0];text d[0-1];text e[2001];text f[1%0];"
                + "text g until 9;u1 h;}", 2, 65, 66, 67, 0, 68);
        Check.nodes(x, "0 0 5 -1 8 0 0 0 0", "1 0 1 0 0 0 0 -1 2", "5 1 3 0 0 0 0 -1 2", "5 3 5 0 0 0 0 -1 1",
                "5 5 5 0 0 0 0 -1 0", "5 5 5 0 0 5 0 -1 0", "5 5 5 0 0 5 0 -1 0", "5 5 5 0 0 6 0 -1 0",
                "5 5 5 0 0 1 0 -1 0");
        x = Check.laid("struct s{text a[3];u1 b;}", 1, 2);
        Check.nodes(x, "0 0 0 -1 1 0 0 0 0", "5 0 0 0 0 1 0 -1 0");
        x = Check.laid("struct s{text a until 7;u1 b;}", 7, 2);
        Check.nodes(x, "0 0 2 -1 2 0 0 0 0", "5 0 1 0 0 0 0 -1 0", "1 1 2 0 0 0 0 -1 2");
    }

    private static void unions() {
        String text = "struct p{u1 a;}struct q{u2 a;}struct r{}struct s{s1 n;union u by n{1:p;-2:q;1:q;else r;};u1 z;}";
        OverlayViewer x = Check.laid(text, 1, 5, 6);
        Check.nodes(x, "0 0 3 -1 3 0 0 3 0", "1 0 1 0 0 0 0 -1 1", "6 1 2 0 1 0 0 -1 0", "0 1 2 2 1 0 0 0 0",
                "1 1 2 3 0 0 0 -1 5", "1 2 3 0 0 0 0 -1 6");
        x = Check.laid(text, 254, 5, 6);
        Check.due("case -2", Check.node(x, 0, 2), "6 1 3 0 1 0 0 -1 0");
        Check.due("case -2", x.node(0, 3, 7), 1);
        x = Check.laid(text, 9, 5, 6);
        Check.due("else", x.node(0, 3, 7), 2);
        Check.due("else", x.node(0, 2, 2), 1);
        x = Check.laid("struct p{u1 a;}struct s{u1 n;union u by n{1:p;};union v by 1/n{1:p;};u1 z;}", 0, 7);
        Check.nodes(x, "0 0 2 -1 4 0 0 1 0", "1 0 1 0 0 0 0 -1 0", "6 1 1 0 0 7 0 -1 0", "6 1 1 0 0 6 0 -1 0",
                "1 1 2 0 0 0 0 -1 7");
    }

    private static void pointers() {
        OverlayViewer x = Check.laid("struct p{u1 v;}struct s{to p a by u1;to p b by s1 from here times 2;to p c by u1;u1 d;}",
                3, 255, 4, 9);
        // b: -1 * 2 and where it begins, 1: below 0
        Check.nodes(x, "0 0 4 -1 4 0 0 1 0", "7 0 1 0 1 0 0 -1 3", "0 3 4 1 1 0 0 0 0", "1 3 4 2 0 0 0 -1 9",
                "7 1 2 0 0 8 0 -1 -1", "7 2 3 0 0 8 0 -1 4", "1 3 4 0 0 0 0 -1 9");
        x = Check.laid("struct p{u1 v;}struct s{u1 z;to p a by u1 from begin+z times 3;to p b by u1 from 1/0;}", 1, 1, 1, 0, 8);
        Check.nodes(x, "0 0 3 -1 3 0 0 1 0", "1 0 1 0 0 0 0 -1 1", "7 1 2 0 1 0 0 -1 1", "0 4 5 2 1 0 0 0 0",
                "1 4 5 3 0 0 0 -1 8", "7 2 3 0 0 6 0 -1 1");
        x = Check.laid("struct p{}struct s{to p a by u8 from 5 times 4096;}", 0, 0, 0, 0, 0, 0, 0, 8);
        Check.due("the aim wraps", Check.node(x, 0, 2), "0 5 5 1 0 0 0 0 0");
    }

    private static void pointersInRings() {
        OverlayViewer x = Check.laid("struct s{to s a by u1;}", 1, 2, 0);
        Check.nodes(x, "0 0 1 -1 1 0 0 0 0", "7 0 1 0 1 0 0 -1 1", "0 1 2 1 1 0 0 0 0", "7 1 2 2 1 0 0 -1 2",
                "0 2 3 3 1 0 0 0 0", "7 2 3 4 0 0 1 -1 0");
        x = Check.laid("struct t{to s a by u1;}struct s{to t a by u1;}", 0);
        // another structure at the same place is none that is met
        Check.nodes(x, "0 0 1 -1 1 0 0 1 0", "7 0 1 0 1 0 0 -1 0", "0 0 1 1 1 0 0 0 0", "7 0 1 2 0 0 1 -1 0");
    }

    private static void depth() {
        int[] bytes = new int[30];
        for (int i = 0; i < 30; i++) {
            bytes[i] = i + 1;
        }
        OverlayViewer x = Check.laid("struct s{to s a by u1;u1 b;}", bytes);
        // STRUCT 20 is the last with fields; the 21st has none
        Check.due("the 20th", Check.node(x, 0, 38), "0 19 21 37 2 0 0 0 0");
        Check.due("its pointer", Check.node(x, 0, 39), "7 19 20 38 1 0 0 -1 20");
        Check.due("the 21st", Check.node(x, 0, 40), "0 20 20 39 0 9 0 0 0");
        Check.due("the fields behind", Check.node(x, 0, 41), "1 20 21 38 0 0 0 -1 21");
        Check.due("all", x.faults(0, 2), 61);
        Check.due("faults", x.faults(0, 0), 1);
    }

    private static void pads() {
        OverlayViewer x = Check.viewer("struct s{u1 a;pad 4;pad 4;u1 b;pad 3;pad 64;u1 c;}", new int[12]);
        x.lay(0, 0, 2);
        Check.nodes(x, "0 2 8 -1 6 0 0 0 0", "1 2 3 0 0 0 0 -1 0", "8 3 6 0 0 0 0 -1 0", "8 6 6 0 0 0 0 -1 0",
                "1 6 7 0 0 0 0 -1 0", "8 7 8 0 0 0 0 -1 0", "8 8 8 0 0 1 0 -1 0");
    }

    private static void magics() {
        OverlayViewer x = Check.laid("struct s{magic a=1 * 3;magic b=1 * 3;magic c=4;}", 1, 9, 3, 1, 9, 4, 4);
        Check.nodes(x, "0 0 7 -1 3 0 0 0 0", "9 0 3 0 0 0 0 -1 0", "9 3 6 0 0 2 0 -1 0", "9 6 7 0 0 0 0 -1 0");
    }

    private static void sums() {
        OverlayViewer x = Check.laid("struct s{u1 a;u1 b;u1 c;sum add u1 d of 0,3;sum xor u2 e of 1,3;sum ones u1 f of 0,2;"
                + "sum roll u2 g of 0,3;sum add u1 h of 3,3;}", 200, 100, 7, 51, 99, 0, 211, 0, 0, 1);
        // 200 * 31 * 31 + 100 * 31 + 7 = 195307 = 2 * 65536 + 64235
        Check.due("faults", Check.faults(x, 0), "0 0 0 0 0 0 0 3 3");
        Check.due("fix the roll", x.fix(0, 7), 0);
        Check.due("roll", x.value(0, 7), 64235);
        Check.due("fix the empty sum", x.fix(0, 8), 0);
        Check.due("of nothing", x.value(0, 8), 0);
        // its own BYTES are not of it; the STRUCT's beginning counts
        OverlayViewer y = Check.viewer("struct s{u1 a;sum roll u2b b of 0,4;u1 c;sum xor s1 d of 0,here-begin;}",
                99, 1, 0, 33, 2, 35);
        y.lay(0, 0, 1);
        Check.due("of all but its own", Check.faults(y, 0), "0 0 0 0 3");
        y.fix(0, 4);
        Check.due("xor", y.value(0, 4), 1 ^ 33 ^ 2);
        // an s1 with the same lowest bits
        y = Check.laid("struct s{u1 a;sum add s1 b of 0,1;sum ones u8 c of 0,1;}", 200, 200, 55, 255, 255, 255, 255, 255, 255, 255);
        Check.due("lowest bits count", Check.faults(y, 0), "0 0 0 0");
        Check.due("ones", y.value(0, 3), -201);
    }

    private static void sumFaults() {
        OverlayViewer x = Check.laid("struct s{u1 a;sum add u1 b of -1,1;sum add u1 c of 2,1;sum add u1 d of 0,11;"
                + "sum add u1 e of 1/0,1;sum add u1 f of 0,1%0;sum add u1 g of 0,10;sum add u1 h of 10,10;}",
                0, 0, 0, 0, 0, 0, 0, 0, 0, 0);
        Check.due("faults", Check.faults(x, 0), "0 0 5 5 5 6 6 0 0");
        x = Check.viewer("struct s{u1 a;sum add u1 b of 0,4;sum add u1 c of 0,3;sum add u1 d of 0,0x7fffffff*0xffffffff*2;}",
                0, 0, 0, 0, 0);
        x.lay(0, 0, 1);
        Check.due("beyond the length", Check.faults(x, 0), "0 0 0 0 5");
        x.lay(0, 0, 2);
        Check.due("beyond the length", x.node(1, 2, 5), 5);
    }

    private static void conditions() {
        OverlayViewer x = Check.laid("struct s{u1 n;if n:u1 a;if n=0:u1 b;if 1/n:u1 c;if c:u1 d;u1 e;}", 0, 5, 6);
        Check.nodes(x, "0 0 3 -1 3 6 0 0 0", "1 0 1 0 0 0 0 -1 0", "1 1 2 0 0 0 0 -1 5", "1 2 3 0 0 0 0 -1 6");
        Check.due("names", Check.name(x, 0, 2, 0) + Check.name(x, 0, 3, 0), "be");
        x = Check.laid("struct s{u1 n;if -n:u1 a;}", 7, 8);
        Check.due("what is not 0 is true", x.faults(0, 2), 3);
    }

    private static void expressions() {
        OverlayViewer x = Check.viewer("struct s{s1 a;u1 z;bits u1 b{p:4,q:4};u2 c;}", 99, 249, 0, 0x53, 4, 0);
        x.lay(0, 0, 1);
        Check.due("a", Check.worked(x, "a"), -7);
        Check.due("a/2", Check.worked(x, "a/2"), -3);
        Check.due("a%2", Check.worked(x, "a%2"), -1);
        Check.due("a&0xff", Check.worked(x, "a&0xff"), 249);
        Check.due("parts", Check.worked(x, "p*10+q"), 35);
        Check.due("here", Check.worked(x, "here"), 6);
        Check.due("left", Check.worked(x, "left"), 0);
        Check.due("begin", Check.worked(x, "begin"), 1);
        Check.due("left to right", Check.worked(x, "10-3-2"), 5);
        Check.due("left to right", Check.worked(x, "100/5/2*3%4&3"), 2);
        Check.due("binding", Check.worked(x, "1+2*3"), 7);
        Check.due("binding", Check.worked(x, "(1+2)*3"), 9);
        Check.due("binding", Check.worked(x, "1=1 or 1=0 and 1=0"), 1);
        Check.due("binding", Check.worked(x, "not 0+1"), 2);
        Check.due("minus", Check.worked(x, "- -3*-2"), -6);
        Check.due("compare", Check.worked(x, "(1<2)*100+(2<1)*10+(2>1)"), 101);
        Check.due("and", Check.worked(x, "5 and 6"), 1);
        Check.due("or", Check.worked(x, "0 or 6"), 1);
        Check.due("not", Check.worked(x, "not 7"), 0);
        Check.due("all parts are worked out", Check.worked(x, "0 and 1/0"), -1000 + Check.RANGE);
        Check.due("all parts are worked out", Check.worked(x, "1 or 1%z"), -1000 + Check.RANGE);
        String wide = "0xffffffff*0xffffffff*0xffffffff";
        Check.due("longs wrap", Check.worked(x, wide), 0xffffffffL * 0xffffffffL * 0xffffffffL);
        Check.due("least by -1", Check.worked(x, "(0-0x80000000*0x80000000*2)/-1"), Long.MIN_VALUE);
        Check.due("least by -1", Check.worked(x, "(0-0x80000000*0x80000000*2)%-1"), 0);
    }

    private static void names() {
        OverlayViewer x = Check.laid("struct p{u1 v;}struct s{p x;p a[1];u1 b[1];union u by 1{1:p;};to p w by u1;pad 1;"
                + "bits u1 abcdefgh{part:1};magic m=0;text t[1];sum add u1 c of 0,0;}", new int[20]);
        String[] due = {"s", "x", "v", "a", "p", "v", "b", "", "u", "p", "v", "w", "p", "v", "", "abcdefgh", "part",
            "m", "t", "c"};
        Check.due("nodes", x.faults(0, 2), due.length);
        for (int n = 0; n < due.length; n++) {
            Check.due("name of " + n, Check.name(x, 0, n, 0), due[n]);
        }
    }
}
