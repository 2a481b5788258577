import java.util.Arrays;

/** Part 4 of the document: how structures are LAID; each sentence that names a bound. */
public final class LayingBoundsTest {
    public static void main(String[] args) {
        fourHundredNodes();
        sixTrees();
        twentyStructs();
        metAheadOfTooDeep();
        conditions();
        bytesThatJustFit();
        outsideEndsThisStructAlone();
        firstFaultIsKept();
        wholesWithPairs();
        arrayCounts();
        arraysOfWholesOutside();
        arraysOfStructsOutside();
        arraysWithoutExpr();
        bitsAndParts();
        textCounts();
        textsUntil();
        unionCases();
        pointerAims();
        pointerAimsWrap();
        pointersThatMeet();
        pads();
        magics();
        sumDistances();
        sumsLeaveTheirOwn();
        sumKinds();
        sumsOfEachWidth();
        values();
        valuesStay();
        valuesOfAGrownImage();
        names();
        Check.end();
    }

    // the rows of Check.nodes are: kind, from, to, parent, kids, fault, met, structure, value

    private static int[] filled(int n, int... first) {
        return Arrays.copyOf(first, n);
    }

    private static void fourHundredNodes() {
        Check.says("TO LAY makes a TREE of NODES, 400 at most; MANY more than 400 NODES");
        String[] fields = {"", "u1 z;", "u1 z[2];", "bits u1 z{p:1,q:1};", "e z;", "t z;", "e z[2];", "union z by 1{1:e;};",
            "union z by 1{1:t;};", "to e z by u1;", "to t z by u1;", "text z[1];", "text z until 0;", "pad 3;", "magic z=1;",
            "sum add u1 z of 0,0;", "u8 z;"};
        int[] nodes = {0, 1, 3, 3, 1, 2, 3, 2, 3, 2, 3, 1, 1, 1, 1, 1, 1};
        for (int f = 0; f < fields.length; f++) {
            OverlayViewer x = new OverlayViewer();
            Check.filled(x, 420, 0);
            // 204 NODES without b's KIDS and without the last field's
            Check.describe(x, "struct e{}struct t{u1 v;}struct s{u1 n;u1 a[200];u1 b[n];" + fields[f] + "}");
            x.poke(0, 0, 196 - nodes[f]);
            Check.due("400 with " + fields[f], x.lay(0, 2, 0), 0);
            Check.due("nodes", x.faults(0, 2), 400);
            Check.due("the last one", x.node(0, 399, 0) >= 0 ? 1 : 0, 1);
            Check.due("no more", x.node(0, 400, 0), Check.NONE);
            x.poke(0, 0, 197 - nodes[f]);
            Check.due("401 with " + fields[f], x.lay(0, 2, 0), Check.MANY);
            Check.due("relay to 401", x.relay(0), Check.MANY);
            Check.due("trees", x.count(4), 1);
            x.poke(0, 0, 195 - nodes[f]);
            Check.due("relay to 399", x.relay(0), 399);
        }
        OverlayViewer x = new OverlayViewer();
        Check.describe(x, "struct e{}struct t{e a[200];}struct s{t b[2];}struct q{e a[200];e b[197];}struct r{e a[200];e b[198];}");
        x.image();
        Check.due("1 + 1 + 2 * 202", x.lay(0, 2, 0), Check.MANY);
        Check.due("1 + 201 + 198", x.lay(0, 3, 0), 0);
        Check.due("1 + 201 + 199", x.lay(0, 4, 0), Check.MANY);
        Check.due("nodes", x.count(5), 400);
    }

    private static void sixTrees() {
        Check.says("TREES are numbered from 0 on, 6 at most.");
        OverlayViewer x = Check.viewer("struct s{u1 a;}", 5, 6, 7, 8, 9, 10, 11);
        for (int t = 0; t < 6; t++) {
            Check.due("tree " + t + " ahead", x.faults(t, 2), Check.NONE);
            Check.due("lay", x.lay(0, 0, t), t);
        }
        Check.due("the 7th", x.lay(0, 0, 6), Check.FULL);
        Check.due("the 7th once more", x.lay(0, 0, 6), Check.FULL);
        Check.due("count(4)", x.count(4), 6);
        for (int t = 0; t < 6; t++) {
            Check.due("each is itself", x.value(t, 1), 5 + t);
        }
        Check.due("tree 6", x.value(6, 1), 0);
        Check.due("tree 6", x.node(6, 0, 0), Check.NONE);
        Check.due("tree -1", x.node(-1, 0, 0), Check.NONE);
        x.clear();
        Check.due("from 0 on again", x.lay(0, 0, 6), 0);
        Check.due("it is the new one", x.value(0, 1), 11);
    }

    private static void twentyStructs() {
        Check.says("One that would be the 21st of STRUCTS within one another is made, with FAULT 9, TO like FROM, without fields.");
        int[] bytes = new int[40];
        for (int i = 0; i < 40; i++) {
            bytes[i] = i + 1;
        }
        OverlayViewer x = Check.laid("struct e{u1 v;}struct s{to s p by u1;e x;e y[2];union z by 1{1:e;};}", bytes);
        // NODES of a STRUCT that is no e: itself, p, its KID .., x, v, y, 2 with v, z, its KID, v
        Check.due("the 20th", Check.node(x, 0, 38), "0 19 20 37 4 0 0 1 0");
        Check.due("its p", Check.node(x, 0, 39), "7 19 20 38 1 0 0 -1 20");
        Check.due("p's", Check.node(x, 0, 40), "0 20 20 39 0 9 0 1 0");
        Check.due("x", Check.node(x, 0, 41), "0 20 20 38 0 9 0 0 0");
        Check.due("y", Check.node(x, 0, 42), "2 20 20 38 2 0 0 -1 2");
        Check.due("y's first", Check.node(x, 0, 43), "0 20 20 42 0 9 0 0 0");
        Check.due("y's second", Check.node(x, 0, 44), "0 20 20 42 0 9 0 0 0");
        Check.due("z", Check.node(x, 0, 45), "6 20 20 38 1 0 0 -1 0");
        Check.due("z's", Check.node(x, 0, 46), "0 20 20 45 0 9 0 0 0");
        // what is within the 19th is the 20th
        Check.due("x of the 19th", Check.node(x, 0, 47), "0 19 20 36 1 0 0 0 0");
        Check.due("its v", Check.node(x, 0, 48), "1 19 20 47 0 0 0 -1 20");
        Check.due("y of the 19th", Check.node(x, 0, 49), "2 20 22 36 2 0 0 -1 2");
        Check.due("z of the 19th", Check.node(x, 0, 54), "6 22 23 36 1 0 0 -1 0");
        Check.due("z's", Check.node(x, 0, 55), "0 22 23 54 1 0 0 0 0");
        Check.due("faults", x.faults(0, 0), 5);
        Check.due("nodes", x.faults(0, 2), 47 + 19 * 10);
        Check.says("(KIDS of KIDS; a STRUCT that is a field counts, too)");
        StringBuilder text = new StringBuilder("struct a0{to a0 p by u1;}");
        for (int s = 1; s < 20; s++) {
            text.append("struct a").append(s).append("{a").append(s - 1).append(" x;}");
        }
        OverlayViewer y = Check.viewer(text.toString(), 1, 0);
        Check.due("lay 19 within one another", y.lay(0, 18, 0), 0);
        Check.due("nodes", y.faults(0, 2), 22);
        Check.due("no fault", y.faults(0, 0), 0);
        Check.due("the 20th", Check.node(y, 0, 20), "0 1 2 19 1 0 0 0 0");
        Check.due("meets the 19th", Check.node(y, 0, 21), "7 1 2 20 0 0 1 -1 0");
        Check.due("lay 20 within one another", y.lay(0, 19, 0), 1);
        Check.due("the 20th", Check.node(y, 1, 19), "0 0 1 18 1 0 0 0 0");
        Check.due("its pointer", Check.node(y, 1, 20), "7 0 1 19 1 0 0 -1 1");
        Check.due("the 21st", Check.node(y, 1, 21), "0 1 1 20 0 9 0 0 0");
        Check.due("nodes", y.faults(1, 2), 22);
    }

    private static void metAheadOfTooDeep() {
        Check.says("Is a STRUCT of that structure with the aim as FROM above it: it is MET, no KID. Else the structure laid at the aim");
        int[] bytes = new int[20];
        for (int i = 0; i < 19; i++) {
            bytes[i] = i + 1;
        }
        OverlayViewer x = Check.laid("struct s{to s p by u1;}", bytes);
        // the 20th aims at 0, where the first one is
        Check.due("the 20th", Check.node(x, 0, 38), "0 19 20 37 1 0 0 0 0");
        Check.due("its pointer", Check.node(x, 0, 39), "7 19 20 38 0 0 1 -1 0");
        Check.due("nodes", x.faults(0, 2), 40);
        Check.due("faults", x.faults(0, 0), 0);
    }

    private static void conditions() {
        Check.says("if: 0: the field is not there; it FAILS: neither, and the STRUCT has FAULT 6.");
        OverlayViewer x = Check.laid("struct t{if 1/0:u1 b;u1 c;}struct s{if 0:u1 a;if 1:u1 d;if 1%0:u1 e;t f;if 0-1:u1 g;}",
                5, 6, 7, 8);
        Check.nodes(x, "0 0 3 -1 3 6 0 1 0", "1 0 1 0 0 0 0 -1 5", "0 1 2 0 1 6 0 0 0", "1 1 2 2 0 0 0 -1 6",
                "1 2 3 0 0 0 0 -1 7");
        OverlayViewer y = Check.laid("struct t{if 1/0:u1 b;}struct s{t a[2];union b by 1{1:t;};to t c by u1;u1 d;}", 0, 9);
        Check.due("the STRUCT itself, none above it", Check.faults(y, 0), "0 0 6 6 0 6 0 6 0");
    }

    private static void bytesThatJustFit() {
        Check.says("it is OUTSIDE when its BYTES would not end at LENGTH at most: FAULT 1, TO is q, no KIDS, no more fields of this "
                + "STRUCT are laid");
        String[] fields = {"u1 a;", "u2 a;", "u3b a;", "u4 a;", "s5 a;", "u6 a;", "u7 a;", "u8 a;", "s8b a;", "bits u1 a{p:1};",
            "bits u8b a{p:1,q:2};", "text a[1];", "text a[9];", "to t a by u1;", "to t a by s8b;", "pad 2;", "pad 5;", "pad 64;",
            "magic a=0;", "magic a=" + "0 ".repeat(16) + ";", "sum add u1 a of 0,0;", "sum add u8 a of 0,0;", "u1 a is e;"};
        int[] widths = {1, 2, 3, 4, 5, 6, 7, 8, 8, 1, 8, 1, 9, 1, 8, 1, 4, 63, 1, 16, 1, 8, 1};
        for (int f = 0; f < fields.length; f++) {
            String text = "enum e{v=0}struct t{}struct s{u1 h;" + fields[f] + "u1 z;}";
            for (int length = 1; length <= widths[f] + 2; length++) {
                OverlayViewer x = Check.laid(text, new int[length]);
                boolean fits = length >= 1 + widths[f];
                Check.due("fault of " + fields[f] + " in " + length, x.node(0, 2, 5), fits ? 0 : 1);
                Check.due("from of " + fields[f] + " in " + length, x.node(0, 2, 1), 1);
                Check.due("to of " + fields[f] + " in " + length, x.node(0, 2, 2), fits ? 1 + widths[f] : 1);
                Check.due("kids of the STRUCT", x.node(0, 0, 4), fits ? 3 : 2);
                Check.due("to of the STRUCT", x.node(0, 0, 2), fits ? Math.min(length, 2 + widths[f]) : 1);
                if (!fits) {
                    Check.due("no kids", x.node(0, 2, 4), 0);
                    Check.due("nodes", x.faults(0, 2), 3);
                    Check.due("value", x.value(0, 2), 0);
                }
                Check.due("no fault of the STRUCT", x.node(0, 0, 5), 0);
            }
        }
    }

    private static void outsideEndsThisStructAlone() {
        Check.says("no more fields of this STRUCT are laid");
        // each t may end early; what is around it goes on from where it ended
        String text = "struct t{u1 a;u4 b;u1 c;}struct s{t d;t e[2];union f by 1{1:t;};to t g by u1;u1 h;u1 i;}";
        OverlayViewer x = Check.laid(text, 1, 2, 3, 1, 4, 5);
        Check.nodes(x, "0 0 6 -1 4 0 0 1 0", "0 0 6 0 3 0 0 0 0", "1 0 1 1 0 0 0 -1 1", "1 1 5 1 0 0 0 -1 67175170",
                "1 5 6 1 0 0 0 -1 5", "2 6 6 0 2 0 0 -1 2", "0 6 6 5 1 0 0 0 0", "1 6 6 6 0 1 0 -1 0", "0 6 6 5 1 0 0 0 0",
                "1 6 6 8 0 1 0 -1 0", "6 6 6 0 1 0 0 -1 0", "0 6 6 10 1 0 0 0 0", "1 6 6 11 0 1 0 -1 0", "7 6 6 0 0 1 0 -1 0");
        x = Check.laid(text, 1, 2, 3, 0, 4);
        Check.nodes(x, "0 0 5 -1 4 0 0 1 0", "0 0 5 0 3 0 0 0 0", "1 0 1 1 0 0 0 -1 1", "1 1 5 1 0 0 0 -1 67109634",
                "1 5 5 1 0 1 0 -1 0", "2 5 5 0 2 0 0 -1 2", "0 5 5 5 1 0 0 0 0", "1 5 5 6 0 1 0 -1 0", "0 5 5 5 1 0 0 0 0",
                "1 5 5 8 0 1 0 -1 0", "6 5 5 0 1 0 0 -1 0", "0 5 5 10 1 0 0 0 0", "1 5 5 11 0 1 0 -1 0", "7 5 5 0 0 1 0 -1 0");
        x = Check.laid(text, 1, 2, 3, 4);
        Check.nodes(x, "0 0 4 -1 4 0 0 1 0", "0 0 1 0 2 0 0 0 0", "1 0 1 1 0 0 0 -1 1", "1 1 1 1 0 1 0 -1 0",
                "2 1 3 0 2 0 0 -1 2", "0 1 2 4 2 0 0 0 0", "1 1 2 5 0 0 0 -1 2", "1 2 2 5 0 1 0 -1 0", "0 2 3 4 2 0 0 0 0",
                "1 2 3 8 0 0 0 -1 3", "1 3 3 8 0 1 0 -1 0", "6 3 4 0 1 0 0 -1 0", "0 3 4 11 2 0 0 0 0", "1 3 4 12 0 0 0 -1 4",
                "1 4 4 12 0 1 0 -1 0", "7 4 4 0 0 1 0 -1 0");
    }

    private static void firstFaultIsKept() {
        Check.says("at most one FAULT (the first it gets)");
        // OUTSIDE is seen ahead of what the exprs and BYTES would give
        OverlayViewer x = Check.laid("enum e{v=1}struct s{u2 a is e;}", 9);
        Check.due("1, not 4", x.node(0, 1, 5), 1);
        x = Check.laid("struct s{to s a by u2 from 1/0;}", 9);
        Check.due("1, not 6", x.node(0, 1, 5), 1);
        x = Check.laid("struct s{sum add u2 a of 1/0,0;}", 9);
        Check.due("1, not 6", x.node(0, 1, 5), 1);
        x = Check.laid("struct s{magic a=1 2;}", 9);
        Check.due("1, not 2", x.node(0, 1, 5), 1);
        x = Check.laid("struct s{u1 a;text b[2001];text c[2000];}", 9);
        Check.due("5, not 1; and 1", Check.faults(x, 0), "0 0 5 1");
        x = Check.laid("struct s{if 1/0:u1 a;if 1%0:u1 b;}", 9);
        Check.due("6", x.node(0, 0, 5), 6);
        // a pointer's expr is seen ahead of its aim, a sum's exprs ahead of its distances and its DUE
        x = Check.laid("struct s{to s a by u1 from 1/0;sum add u1 b of -1,1/0;sum add u1 c of 1/0,-1;sum add u1 d of 5,4;}", 99, 1, 1, 1);
        Check.due("6, 6, 6, 5", Check.faults(x, 0), "0 6 6 6 5");
    }

    private static void wholesWithPairs() {
        Check.says("WHOLE: FAULT 4: with is, no pair has its VALUE.");
        String text = "enum e{a=0,b=255,c=-1,d=-128,f=0xffffffff,g=-0xffffffff,h=7,i=7}struct s{u1 a is e;s1 b is e;u4 c is e;s4 d is e;"
                + "s8 g is e;u8 h is e;u1 i;}";
        OverlayViewer x = Check.laid(text, 255, 255, 255, 255, 255, 255, 255, 255, 255, 255, 1, 0, 0, 0, 255, 255, 255, 255, 255, 255,
                255, 255, 255, 255, 255, 255, 99);
        Check.due("faults", Check.faults(x, 0), "0 0 0 0 0 0 0 0");
        String[] names = {"b", "c", "f", "c", "g", "c", ""};
        for (int n = 1; n <= 7; n++) {
            Check.due("pair of " + n, Check.name(x, 0, n, 1), names[n - 1]);
        }
        x = Check.laid(text, 254, 128, 254, 255, 255, 255, 255, 255, 255, 127, 0, 0, 0, 0, 255, 255, 255, 255, 255, 255,
                255, 255, 255, 127, 255, 255, 99);
        Check.due("faults", Check.faults(x, 0), "0 4 0 4 4 4 4 0");
        x = Check.laid(text, 7, 7, 7, 0, 0, 0);
        Check.due("the first of two", Check.name(x, 0, 1, 1), "h");
        Check.due("a fault does not end the STRUCT", x.node(0, 0, 4), 4);
    }

    private static void arrayCounts() {
        Check.says("ARRAY: expr FAILS: FAULT 6; below 0 or above 200: FAULT 5; TO is q then, no KIDS.");
        String[] exprs = {"0", "1", "199", "200", "201", "-1", "0xffffffff", "-0xffffffff", "0x80000000*0x80000000*2", "1/0", "256",
            "0x80000000*2+1", "-200"};
        int[] kids = {0, 1, 199, 200, 0, 0, 0, 0, 0, 0, 0, 0, 0};
        int[] faults = {0, 0, 0, 0, 5, 5, 5, 5, 5, 6, 5, 5, 5};
        for (int i = 0; i < exprs.length; i++) {
            for (String type : new String[] {"u1", "t", "e"}) {
                OverlayViewer x = new OverlayViewer();
                Check.filled(x, 210, 1);
                Check.describe(x, "struct e{}struct t{pad 1;}struct s{u1 h;" + type + " a[" + exprs[i] + "];u1 z;}");
                boolean many = type.equals("t") && kids[i] > 198;
                Check.due("lay " + exprs[i], x.lay(0, 2, 0), many ? Check.MANY : 0);
                if (!many) {
                    int to = type.equals("u1") ? 1 + kids[i] : 1;
                    Check.due("array of " + exprs[i], Check.node(x, 0, 2), "2 1 " + to + " 0 " + kids[i] + " " + faults[i] + " 0 -1 "
                            + kids[i]);
                    Check.due("the fields go on", x.node(0, 0, 2), to + 1);
                    Check.due("the fields go on", x.node(0, 0, 4), 3);
                }
            }
        }
    }

    private static void arraysOfWholesOutside() {
        Check.says("a WHOLE that is OUTSIDE is the last, and no more fields of this STRUCT are laid. TO is where the last one ended");
        for (int length = 0; length <= 9; length++) {
            OverlayViewer x = Check.laid("struct s{u3 a[2];u1 z;}", new int[length]);
            int there = Math.min(2, length / 3);
            int kids = Math.min(2, there + 1);
            boolean all = there == 2;
            Check.due("array in " + length, Check.node(x, 0, 1), "2 0 " + 3 * there + " 0 " + kids + " 0 0 -1 " + kids);
            for (int k = 0; k < kids; k++) {
                Check.due("kid " + k + " in " + length, Check.node(x, 0, 2 + k), k < there ? "1 " + 3 * k + " " + 3 * (k + 1)
                        + " 1 0 0 0 -1 0" : "1 " + 3 * k + " " + 3 * k + " 1 0 1 0 -1 0");
            }
            Check.due("the STRUCT in " + length, Check.node(x, 0, 0), "0 0 " + (all ? Math.min(7, length) : 3 * there) + " -1 "
                    + (all ? 2 : 1) + " 0 0 0 0");
        }
    }

    private static void arraysOfStructsOutside() {
        Check.says("So many KIDS, each from where the one before ended, WHOLES or STRUCTS");
        OverlayViewer x = Check.laid("struct t{u1 a;u2 b;}struct s{t a[3];u1 z;}", 1, 2, 3, 4, 5);
        Check.nodes(x, "0 0 5 -1 2 0 0 1 0", "2 0 5 0 3 0 0 -1 3", "0 0 3 1 2 0 0 0 0", "1 0 1 2 0 0 0 -1 1", "1 1 3 2 0 0 0 -1 770",
                "0 3 4 1 2 0 0 0 0", "1 3 4 5 0 0 0 -1 4", "1 4 4 5 0 1 0 -1 0", "0 4 5 1 2 0 0 0 0", "1 4 5 8 0 0 0 -1 5",
                "1 5 5 8 0 1 0 -1 0", "1 5 5 0 0 1 0 -1 0");
        x = Check.laid("struct t{text v until 0;}struct s{t a[3];u1 z;}", 1, 0, 0, 7, 7, 0, 9);
        Check.due("ends", Check.node(x, 0, 1), "2 0 6 0 3 0 0 -1 3");
        Check.due("the second", Check.node(x, 0, 4), "0 2 3 1 1 0 0 0 0");
        Check.due("the third", Check.node(x, 0, 6), "0 3 6 1 1 0 0 0 0");
    }

    private static void arraysWithoutExpr() {
        Check.says("(without expr: as many as go into LENGTH - q, 200 at most)");
        for (int length = 1; length <= 11; length++) {
            for (String type : new String[] {"u3", "t"}) {
                OverlayViewer x = Check.laid("struct t{text v[3];}struct s{u1 h;" + type + " a[];u1 z[];}", new int[length]);
                int n = (length - 1) / 3;
                Check.due("array in " + length, Check.node(x, 0, 2), "2 1 " + (1 + 3 * n) + " 0 " + n + " 0 0 -1 " + n);
                Check.due("no fault", x.faults(0, 0), 0);
                Check.due("the rest", x.value(0, x.faults(0, 2) - 1 - (length - 1) % 3), (length - 1) % 3);
            }
        }
        for (int length = 199; length <= 202; length++) {
            OverlayViewer x = new OverlayViewer();
            Check.filled(x, length, 1);
            Check.describe(x, "struct s{u1 a[];u1 b[];}");
            x.lay(0, 0, 0);
            int n = Math.min(200, length);
            Check.due("200 at most of " + length, Check.node(x, 0, 1), "2 0 " + n + " 0 " + n + " 0 0 -1 " + n);
            Check.due("the rest", x.value(0, 2 + n), length - n);
        }
        OverlayViewer y = Check.viewer("struct s{u1 a[];}struct t{u8 b;}struct q{t c[];u1 d;}", 1, 2);
        y.lay(0, 0, 2);
        Check.nodes(y, "0 2 2 -1 1 0 0 0 0", "2 2 2 0 0 0 0 -1 0");
        y.lay(0, 2, 0);
        Check.due("none goes", Check.node(y, 1, 1), "2 0 0 0 0 0 0 -1 0");
        Check.due("the fields go on", Check.node(y, 1, 2), "1 0 1 0 0 0 0 -1 1");
    }

    private static void bitsAndParts() {
        Check.says("BITS: its KIDS are PARTS, FROM and TO as its own, the first of the lowest bits, and so on");
        OverlayViewer x = Check.laid("struct s{u1 h;bits u2 a{p:1,q:7,r:8};bits u2b b{c:4,d:12};bits s1 e{f:1};bits u8 g{i:64};"
                + "bits u8b j{k:1,l:62,m:1};}", 9, 0x03, 0x80, 0x03, 0x81, 0xff, 255, 255, 255, 255, 255, 255, 255, 255,
                0x80, 0, 0, 0, 0, 0, 0, 1);
        Check.nodes(x, "0 0 22 -1 6 0 0 0 0", "1 0 1 0 0 0 0 -1 9", "3 1 3 0 3 0 0 -1 32771", "4 1 3 2 0 0 0 -1 1",
                "4 1 3 2 0 0 0 -1 1", "4 1 3 2 0 0 0 -1 128", "3 3 5 0 2 0 0 -1 897", "4 3 5 6 0 0 0 -1 1", "4 3 5 6 0 0 0 -1 56",
                "3 5 6 0 1 0 0 -1 255", "4 5 6 9 0 0 0 -1 1", "3 6 14 0 1 0 0 -1 -1", "4 6 14 11 0 0 0 -1 -1",
                "3 14 22 0 3 0 0 -1 " + (Long.MIN_VALUE + 1), "4 14 22 13 0 0 0 -1 1", "4 14 22 13 0 0 0 -1 0", "4 14 22 13 0 0 0 -1 1");
        Check.says("VALUE: of PART its bits, without sign");
        for (int bits = 1; bits <= 64; bits++) {
            String rest = bits == 64 ? "" : "q:" + (64 - bits) + ",";
            OverlayViewer y = Check.laid("struct s{bits u8 a{" + rest + "p:" + bits + "};}", 255, 255, 255, 255, 255, 255, 255, 255);
            Check.due("a part of " + bits, Check.worked(y, "p"), bits == 64 ? -1 : (1L << bits) - 1);
        }
    }

    private static void textCounts() {
        Check.says("TEXT: expr as of ARRAY (but above 2000: FAULT 5), TO is q with these FAULTS; so many BYTES");
        String[] exprs = {"0", "1", "4", "5", "6", "2000", "2001", "-1", "0xffffffff", "0x80000000*2", "0x80000000*0x80000000*2",
            "1/0", "0x80000000*2+1"};
        int[] faults = {0, 0, 0, 0, 1, 1, 5, 5, 5, 5, 5, 6, 5};
        int[] bytes = {0, 1, 4, 5, 0, 0, 0, 0, 0, 0, 0, 0, 0};
        for (int i = 0; i < exprs.length; i++) {
            OverlayViewer x = Check.laid("struct s{u1 h;text a[" + exprs[i] + "];pad 1;}", 1, 2, 3, 4, 5, 6);
            Check.due("text of " + exprs[i], Check.node(x, 0, 2), "5 1 " + (1 + bytes[i]) + " 0 0 " + faults[i] + " 0 -1 " + bytes[i]);
            Check.due("fields with " + exprs[i], x.node(0, 0, 4), faults[i] == 1 ? 2 : 3);
        }
        OverlayViewer x = new OverlayViewer();
        Check.filled(x, 2000, 7);
        Check.describe(x, "struct s{text a[2000];u1 z[];}struct t{text a[2001];u1 z;}struct q{u1 h;text a[1999];u1 z[];}"
                + "struct r{u1 h;text a[2000];}");
        x.lay(0, 0, 0);
        Check.nodes(x, "0 0 2000 -1 2 0 0 0 0", "5 0 2000 0 0 0 0 -1 2000", "2 2000 2000 0 0 0 0 -1 0");
        x.lay(0, 1, 0);
        Check.due("2001", Check.node(x, 1, 1), "5 0 0 0 0 5 0 -1 0");
        Check.due("behind it", Check.node(x, 1, 2), "1 0 1 0 0 0 0 -1 7");
        x.lay(0, 2, 0);
        Check.due("1999 from 1 on", Check.node(x, 2, 2), "5 1 2000 0 0 0 0 -1 1999");
        x.lay(0, 3, 0);
        Check.due("2000 from 1 on", Check.node(x, 3, 2), "5 1 1 0 0 1 0 -1 0");
    }

    private static void textsUntil() {
        Check.says("until: the BYTES up to the first one that is that NUMBER, with it; there is none: OUTSIDE");
        int[][] rows = {{1, 0, 5, 5}, {1, 5, 0, 5}, {1, 5, 5, 0}, {1, 5, 5, 5}, {0, 5, 5, 5}, {1, 0, 0, 0}, {1}, {1, 0}, {0}};
        int[] to = {2, 3, 4, 1, 1, 2, 1, 2, 1};
        for (int i = 0; i < rows.length; i++) {
            OverlayViewer x = Check.laid("struct s{u1 h;text a until 0;pad 1;}", rows[i]);
            boolean outside = to[i] == 1;
            Check.due("until in row " + i, Check.node(x, 0, 2), "5 1 " + to[i] + " 0 0 " + (outside ? 1 : 0) + " 0 -1 "
                    + (outside ? 0 : to[i] - 2));
            Check.due("fields in row " + i, x.node(0, 0, 4), outside ? 2 : 3);
        }
        OverlayViewer x = Check.laid("struct s{text a until 255;text b until 0;text c until 0;text d until 7;}", 254, 255, 0, 1, 0);
        Check.nodes(x, "0 0 5 -1 4 0 0 0 0", "5 0 2 0 0 0 0 -1 1", "5 2 3 0 0 0 0 -1 0", "5 3 5 0 0 0 0 -1 1", "5 5 5 0 0 1 0 -1 0");
        OverlayViewer y = new OverlayViewer();
        Check.filled(y, 2000, 7);
        y.poke(0, 1999, 8);
        Check.describe(y, "struct s{text a until 8;}struct t{text a until 9;}");
        y.lay(0, 0, 0);
        Check.due("all of 2000", Check.node(y, 0, 1), "5 0 2000 0 0 0 0 -1 1999");
        y.lay(0, 1, 0);
        Check.due("none of 2000", Check.node(y, 1, 1), "5 0 0 0 0 1 0 -1 0");
    }

    private static void unionCases() {
        Check.says("UNION: expr FAILS: FAULT 6; its KID is the structure of the first case with that number, else that of else, laid "
                + "at q; neither: FAULT 7. TO is the KID's TO (q without).");
        String told = "struct a{u1 v;}struct b{u2 v;}struct c{u3 v;}struct d{}";
        String[] exprs = {"0", "1", "2", "-1", "0xffffffff", "-0xffffffff", "3", "1/0", "0x80000000*2", "0x80000000*2+1"};
        int[] structure = {0, 1, 2, 0, 1, 2, 3, -1, 3, 3};
        int[] width = {1, 2, 3, 1, 2, 3, 0, 0, 0, 0};
        for (int i = 0; i < exprs.length; i++) {
            String cases = "0:a;1:b;2:c;-1:a;0xffffffff:b;-0xffffffff:c;1:d;";
            OverlayViewer x = Check.laid(told + "struct s{u1 h;union u by " + exprs[i] + "{" + cases + "else d;};pad 1;}",
                    1, 2, 3, 4, 5);
            boolean fails = structure[i] < 0;
            Check.due("union by " + exprs[i], Check.node(x, 0, 2), "6 1 " + (1 + width[i]) + " 0 " + (fails ? 0 : 1) + " "
                    + (fails ? 6 : 0) + " 0 -1 0");
            if (!fails) {
                Check.due("kid by " + exprs[i], x.node(0, 3, 7), structure[i]);
                Check.due("kid by " + exprs[i], x.node(0, 3, 1), 1);
                Check.due("kid by " + exprs[i], x.node(0, 3, 2), 1 + width[i]);
            }
            Check.due("the fields go on", x.node(0, 0, 4), 3);
            OverlayViewer y = Check.laid(told + "struct s{u1 h;union u by " + exprs[i] + "{" + cases + "};u1 z;}", 1, 2, 3, 4, 5);
            int fault = fails ? 6 : structure[i] == 3 ? 7 : 0;
            Check.due("without else by " + exprs[i], y.node(0, 2, 5), fault);
            Check.due("without else by " + exprs[i], y.node(0, 2, 2), 1 + width[i]);
            Check.due("without else by " + exprs[i], y.node(0, 2, 4), fault == 0 ? 1 : 0);
            Check.due("the fields go on", y.node(0, 0, 4), 3);
        }
    }

    private static void pointerAims() {
        Check.says("POINTER: its aim: its VALUE times the NUMBER (1 without times), and, with from, expr. An aim below 0, or not below "
                + "LENGTH: FAULT 8, no KID.");
        String[] forms = {"by s1", "by s1 times 2", "by s1 from 3", "by s1 from -3", "by s1 from here times 3", "by s1 times 4096"};
        int[] times = {1, 2, 1, 1, 3, 4096};
        int[] from = {0, 0, 3, -3, 1, 0};
        for (int f = 0; f < forms.length; f++) {
            for (int v = -8; v <= 12; v++) {
                OverlayViewer x = Check.laid("struct t{}struct s{u1 h;to t p " + forms[f] + ";u1 z;}", 9, v & 255, 3, 4, 5, 6, 7, 8);
                int aim = v * times[f] + from[f];
                boolean fine = aim >= 0 && aim < 8;
                Check.due(forms[f] + " of " + v, Check.node(x, 0, 2), "7 1 2 0 " + (fine ? 1 : 0) + " " + (fine ? 0 : 8) + " 0 -1 " + v);
                Check.due("the KID of " + v, Check.node(x, 0, 3), fine ? "0 " + aim + " " + aim + " 2 0 0 0 0 0" : "1 2 3 0 0 0 0 -1 3");
            }
        }
        Check.says("POINTER: with from, expr (FAILS: FAULT 6, no KID)");
        OverlayViewer x = Check.laid("struct t{}struct s{to t p by u1 from 1/0;to t q by u1 from 1%0 times 3;u1 z;}", 1, 99, 3);
        Check.nodes(x, "0 0 3 -1 3 0 0 1 0", "7 0 1 0 0 6 0 -1 1", "7 1 2 0 0 6 0 -1 99", "1 2 3 0 0 0 0 -1 3");
        Check.says("its KID; (q is its TO then)");
        x = Check.laid("struct t{u1 v;u4 w;}struct s{to t p by u1;u1 z;}", 3, 9, 8, 7);
        Check.nodes(x, "0 0 2 -1 2 0 0 1 0", "7 0 1 0 1 0 0 -1 3", "0 3 4 1 2 0 0 0 0", "1 3 4 2 0 0 0 -1 7", "1 4 4 2 0 1 0 -1 0",
                "1 1 2 0 0 0 0 -1 9");
    }

    private static void pointerAimsWrap() {
        Check.says("in longs that wrap; POINTER: its VALUE times the NUMBER, and, with from, expr");
        // 2^60 * 16 is 0, (2^63 - 1) * 2 is -2, 2^63 - 1 and 2^63 - 1 are -2
        OverlayViewer x = Check.laid("struct t{}struct s{to t a by u8b times 16;to t b by u8b times 2;to t c by u8b from 3 times 2;"
                + "to t d by u8b from 0x7fffffff*0x80000000*2+0xffffffff;to t e by u8b;}", 16, 0, 0, 0, 0, 0, 0, 0,
                127, 255, 255, 255, 255, 255, 255, 255, 127, 255, 255, 255, 255, 255, 255, 255, 127, 255, 255, 255, 255, 255, 255, 255,
                255, 255, 255, 255, 255, 255, 255, 255);
        Check.due("faults", Check.faults(x, 0), "0 0 0 8 0 0 8 8");
        Check.due("a", Check.node(x, 0, 2), "0 0 0 1 0 0 0 0 0");
        Check.due("c", Check.node(x, 0, 5), "0 1 1 4 0 0 0 0 0");
        OverlayViewer y = Check.laid("struct t{}struct s{to t a by u4;to t b by u8 times 2;}", 0, 0, 0, 128, 0, 0, 0, 128, 0, 0, 0, 0);
        Check.due("beyond an int", Check.faults(y, 0), "0 8 8");
        OverlayViewer z = Check.laid("struct t{}struct s{to t a by u8;to t b by u4 times 4096;}", 1, 0, 0, 0, 1, 0, 0, 0, 0, 0, 16, 0);
        Check.due("what an int would cut", Check.faults(z, 0), "0 8 8");
    }

    private static void pointersThatMeet() {
        Check.says("Is a STRUCT of that structure with the aim as FROM above it (its parent, and so on up): it is MET, no KID.");
        OverlayViewer x = Check.laid("struct s{to s a by u1;u1 b;}", 0, 9);
        Check.nodes(x, "0 0 2 -1 2 0 0 0 0", "7 0 1 0 0 0 1 -1 0", "1 1 2 0 0 0 0 -1 9");
        // by way of an ARRAY, a UNION, a field
        x = Check.laid("struct t{to s a by u1;}struct s{t b;t c[1];union d by 1{1:t;};}", 0, 0, 0);
        Check.due("met", x.node(0, 2, 6) + x.node(0, 5, 6) + x.node(0, 8, 6), 3);
        Check.due("nodes", x.faults(0, 2), 9);
        // the same structure elsewhere, another structure there
        x = Check.laid("struct t{to t a by u1;}struct s{u1 h;t b;}", 9, 0, 0);
        Check.nodes(x, "0 0 2 -1 2 0 0 1 0", "1 0 1 0 0 0 0 -1 9", "0 1 2 0 1 0 0 0 0", "7 1 2 2 1 0 0 -1 0", "0 0 1 3 1 0 0 0 0",
                "7 0 1 4 0 8 0 -1 9");
        // one that is not above it: laid once more
        x = Check.laid("struct t{u1 v;}struct s{t a;to t b by u1;to t c by u1;}", 5, 0, 0);
        Check.due("met none", x.node(0, 3, 6) + x.node(0, 6, 6), 0);
        Check.due("nodes", x.faults(0, 2), 9);
        // far above
        x = Check.laid("struct s{to s a by u1;}", 1, 2, 3, 4, 5, 6, 7, 8, 9, 2);
        Check.due("the last one", Check.node(x, 0, 19), "7 9 10 18 0 0 1 -1 2");
        Check.due("nodes", x.faults(0, 2), 20);
        // by times and from
        x = Check.viewer("struct s{to s a by u1 from begin-2 times 2;}", 9, 9, 1);
        x.lay(0, 0, 2);
        Check.nodes(x, "0 2 3 -1 1 0 0 0 0", "7 2 3 0 0 0 1 -1 1");
        Check.due("no KID", x.kid(0, 1, 0), Check.NONE);
    }

    private static void pads() {
        Check.says("PAD: the BYTES up to the next PLACE (also q) whose distance from the STRUCT's FROM is a multiple of the NUMBER.");
        for (int number : new int[] {1, 2, 3, 7, 63, 64}) {
            for (int ahead = 0; ahead <= 2 * number && ahead <= 70; ahead++) {
                OverlayViewer x = new OverlayViewer();
                Check.filled(x, 140, 1);
                Check.describe(x, "struct s{text a[" + ahead + "];pad " + number + ";}");
                x.lay(0, 0, 5);
                int to = 5 + (ahead + number - 1) / number * number;
                Check.due("pad " + number + " behind " + ahead, Check.node(x, 0, 2), "8 " + (5 + ahead) + " " + to + " 0 0 0 0 -1 0");
            }
        }
        // within another STRUCT it is that one's FROM
        OverlayViewer x = Check.laid("struct t{u1 a;pad 4;}struct s{u1 h;t b;pad 4;}", new int[9]);
        Check.nodes(x, "0 0 8 -1 3 0 0 1 0", "1 0 1 0 0 0 0 -1 0", "0 1 5 0 2 0 0 0 0", "1 1 2 2 0 0 0 -1 0", "8 2 5 2 0 0 0 -1 0",
                "8 5 8 0 0 0 0 -1 0");
        x = Check.viewer("struct s{pad 64;}", 1, 2);
        x.lay(0, 0, 2);
        Check.nodes(x, "0 2 2 -1 1 0 0 0 0", "8 2 2 0 0 0 0 -1 0");
    }

    private static void magics() {
        Check.says("MAGIC: as many BYTES as it has; FAULT 2: one of them is not that NUMBER (* : any).");
        int[] row = {0, 255, 7, 8, 1, 2, 3, 4, 5, 6, 7, 8, 9, 10, 11, 12};
        String text = "struct s{magic m=0 255 * 8 1 2 3 4 5 6 7 8 9 10 11 12;u1 z;}";
        OverlayViewer x = Check.laid(text, filled(17, row));
        Check.due("as it is", Check.node(x, 0, 1), "9 0 16 0 0 0 0 -1 0");
        for (int i = 0; i < 16; i++) {
            for (int more : new int[] {1, 255}) {
                int[] other = filled(17, row);
                other[i] = other[i] + more & 255;
                x = Check.laid(text, other);
                Check.due("byte " + i + " is another", Check.node(x, 0, 1), "9 0 16 0 0 " + (i == 2 ? 0 : 2) + " 0 -1 0");
                Check.due("the fields go on", x.node(0, 0, 4), 2);
            }
        }
        x = Check.laid("struct s{magic a=*;magic b=* *;}", 0, 255, 7);
        Check.due("any", x.faults(0, 0), 0);
    }

    private static void sumDistances() {
        Check.says("SUM: a below 0, b below a, or FROM of the STRUCT and b beyond LENGTH: FAULT 5.");
        String[] pairs = {"0,0", "0,6", "6,6", "5,6", "0,7", "7,7", "6,7", "-1,0", "-1,-1", "0,-1", "3,2", "3,3", "0xffffffff,0xffffffff",
            "0,0x80000000*2", "0,0x7fffffff*0x80000000*2+0xffffffff", "0x80000000*0x80000000*2,0", "0,0x80000000*0x80000000*2",
            "1/0,0", "0,1/0", "-1,1%0", "1%0,-1", "0x80000000*2,0x80000000*2+1"};
        int[] faults = {0, 3, 0, 3, 5, 5, 5, 5, 5, 5, 5, 0, 5, 5, 5, 5, 5, 6, 6, 6, 6, 5};
        for (int i = 0; i < pairs.length; i++) {
            OverlayViewer x = Check.viewer("struct s{u1 h;sum add u1 a of " + pairs[i] + ";u1 z;}", 9, 9, 1, 0, 1, 1, 1, 1);
            x.lay(0, 0, 2);
            Check.due("sum of " + pairs[i], Check.node(x, 0, 2), "10 3 4 0 0 " + faults[i] + " 0 -1 0");
            Check.due("the fields go on", x.node(0, 0, 4), 3);
        }
    }

    private static void sumsLeaveTheirOwn() {
        Check.says("Its DUE is made of the BYTES at the distances a .. b - 1 from the STRUCT's FROM, but its own, in rising order");
        // the STRUCT is at 1; BYTES by distance: 1 2 4 [8 16] 32 64
        for (int a = 0; a <= 7; a++) {
            for (int b = a; b <= 7; b++) {
                OverlayViewer x = Check.viewer("struct s{text h[3];sum add u2 c of " + a + "," + b + ";text t[2];}",
                        99, 1, 2, 4, 8, 16, 32, 64, 99);
                x.lay(0, 0, 1);
                int due = 0;
                int roll = 0;
                for (int d = a; d < b; d++) {
                    due += d == 3 || d == 4 ? 0 : 1 << d;
                    roll = d == 3 || d == 4 ? roll : roll * 31 + (1 << d);
                }
                Check.due("fault of " + a + "," + b, x.node(0, 2, 5), 3);
                Check.due("fix", x.fix(0, 2), 0);
                Check.due("due of " + a + "," + b, x.value(0, 2), due);
                Check.due("fault then", x.node(0, 2, 5), 0);
                Check.describe(x, "struct s{text h[3];sum roll u2 c of " + a + "," + b + ";text t[2];}");
                x.lay(0, 0, 1);
                x.fix(0, 2);
                Check.due("roll of " + a + "," + b, x.value(0, 2), roll & 0xffff);
            }
        }
    }

    private static void sumKinds() {
        Check.says("add: their sum; xor; ones: -1 less their sum; roll: from 0 on, for each times 31 and it");
        String[] kinds = {"add", "xor", "ones", "roll"};
        long[] due = {255 + 1 + 0 + 170, 255 ^ 1 ^ 170, -1 - (255 + 1 + 170), ((255L * 31 + 1) * 31) * 31 + 170};
        long[] empty = {0, 0, -1, 0};
        for (int k = 0; k < 4; k++) {
            OverlayViewer x = Check.laid("struct s{sum " + kinds[k] + " s8 c of 8,12;}", filled(12, 0, 0, 0, 0, 0, 0, 0, 0, 255, 1, 0, 170));
            x.fix(0, 1);
            Check.due(kinds[k], x.value(0, 1), due[k]);
            x.relay(0);
            Check.due("no fault", x.node(0, 1, 5), 0);
            OverlayViewer y = Check.laid("struct s{sum " + kinds[k] + " s8 c of 12,12;}", filled(12, 7));
            Check.due("fault", y.node(0, 1, 5), 3);
            y.fix(0, 1);
            Check.due(kinds[k] + " of none", y.value(0, 1), empty[k]);
            y = Check.laid("struct s{sum " + kinds[k] + " s8 c of 0,8;}", filled(12, 7));
            y.fix(0, 1);
            Check.due(kinds[k] + " of its own alone", y.value(0, 1), empty[k]);
        }
    }

    private static void sumsOfEachWidth() {
        Check.says("the lowest bits of that, as many as it has. FAULT 3: its VALUE has other lowest bits.");
        for (int width = 1; width <= 8; width++) {
            for (String type : new String[] {"u" + width, "s" + width, "u" + width + "b", "s" + width + "b"}) {
                OverlayViewer x = new OverlayViewer();
                Check.filled(x, 60, 255);
                Check.describe(x, "struct s{sum roll " + type + " a of 8,60;sum ones " + type + " b of 30,60;}");
                x.lay(0, 0, 0);
                Check.due("fix", x.fix(0, 1) + x.fix(0, 2), 0);
                // b's BYTES that are among a's were 255, too, when a was made its DUE
                long roll = 0;
                for (int p = 8; p < 60; p++) {
                    roll = roll * 31 + 255;
                }
                long ones = -1 - 30 * 255;
                boolean signed = type.charAt(0) == 's';
                Check.due(type + " roll", x.value(0, 1), lowest(roll, width, signed));
                Check.due(type + " ones", x.value(0, 2), lowest(ones, width, signed));
                Check.due("relay", x.relay(0), 3);
                Check.due(type + " ones has no fault", x.node(0, 2, 5), 0);
                for (int bit : new int[] {0, 8 * width - 1}) {
                    x.set(0, 2, lowest(ones ^ 1L << bit, width, signed));
                    x.relay(0);
                    Check.due(type + " ones, another bit " + bit, x.node(0, 2, 5), 3);
                }
            }
        }
    }

    private static long lowest(long v, int width, boolean signed) {
        int unused = 64 - 8 * width;
        return signed ? v << unused >> unused : v << unused >>> unused;
    }

    private static void values() {
        Check.says("VALUE: of ARRAY how many KIDS, of TEXT how many BYTES (of until less 1); of others 0; with FAULT 1: 0.");
        OverlayViewer x = Check.laid("struct t{u1 v;}struct s{t a;union b by 1{1:t;};pad 3;magic c=7;text d[2];text e until 7;u1 f[2];"
                + "text g[0];text h until 7;u1 i[0];u2 j;}", 7, 7, 7, 7, 7, 7, 6, 7, 7, 7, 7, 7);
        String[] due = {"0", "0", "7", "0", "0", "7", "0", "0", "2", "1", "2", "7", "7", "0", "0", "0", "0"};
        Check.due("nodes", x.faults(0, 2), due.length);
        for (int n = 0; n < due.length; n++) {
            Check.due("value of " + n, x.value(0, n), Long.parseLong(due[n]));
        }
    }

    private static void valuesStay() {
        Check.says("It is read from what the IMAGE HAS now (an ARRAY's, TEXT's does not change); FAULTS, FROM, TO, KIDS stay as laid");
        OverlayViewer x = Check.laid("enum e{v=1}struct s{u1 n is e;u1 a[n];text b[n];text c until 0;magic d=5;bits u1 f{p:4,q:4};"
                + "sum add u1 g of 0,0;to s h by u1;}", 1, 9, 8, 7, 0, 5, 0x21, 0, 0);
        String[] ahead = new String[x.faults(0, 2)];
        for (int n = 0; n < ahead.length; n++) {
            ahead[n] = Check.node(x, 0, n);
        }
        x.layer(0);
        for (int p = 0; p < 9; p++) {
            x.poke(0, p, 200 + p);
        }
        for (int n = 0; n < ahead.length; n++) {
            String now = Check.node(x, 0, n);
            int kind = x.node(0, n, 0);
            boolean read = kind == 1 || kind == 3 || kind == 4 || kind == 7 || kind == 10;
            Check.due("node " + n + " but its value", now.substring(0, now.lastIndexOf(' ')), ahead[n].substring(0, ahead[n].lastIndexOf(' ')));
            Check.due("value of " + n, now.equals(ahead[n]) ? 0 : 1, read ? 1 : 0);
        }
        Check.due("n", x.value(0, 1), 200);
        Check.due("p", x.value(0, 8), 206 & 15);
        Check.due("faults", x.faults(0, 0), 0);
        x.drop(0);
        for (int n = 0; n < ahead.length; n++) {
            Check.due("node " + n + " again", Check.node(x, 0, n), ahead[n]);
        }
    }

    private static void valuesOfAGrownImage() {
        Check.says("VALUE: with FAULT 1: 0. FAULTS, FROM, TO, KIDS stay as laid");
        OverlayViewer x = Check.laid("struct s{u2 a[2];}", 1, 0, 2);
        OverlayViewer y = Check.laid("struct s{text a until 0;}", 1, 2, 3);
        OverlayViewer z = Check.laid("struct s{text a[5];}", 1, 2, 3);
        for (OverlayViewer each : new OverlayViewer[] {x, y, z}) {
            each.push(0, 0, 8);
        }
        Check.nodes(x, "0 0 2 -1 1 0 0 0 0", "2 0 2 0 2 0 0 -1 2", "1 0 2 1 0 0 0 -1 1", "1 2 2 1 0 1 0 -1 0");
        Check.nodes(y, "0 0 0 -1 1 0 0 0 0", "5 0 0 0 0 1 0 -1 0");
        Check.nodes(z, "0 0 0 -1 1 0 0 0 0", "5 0 0 0 0 1 0 -1 0");
        Check.due("relay", x.relay(0), 4);
        Check.due("laid anew", Check.node(x, 0, 3), "1 2 4 1 0 0 0 -1 2");
    }

    private static void names() {
        Check.says("A NODE's NAME: of a field, part its own; of a STRUCT that is a field that; of other STRUCTS the structure's; of a "
                + "PAD, a WHOLE in an ARRAY none.");
        OverlayViewer x = Check.laid("struct inner{u1 v;}struct outer{inner x;inner a[2];u1 b[2];union u by 1{1:inner;};to inner w by u1;"
                + "pad 1;bits u1 f{p:1,q:1};magic m=0;text t[1];text y until 0;sum add u1 c of 0,0;}", new int[20]);
        String[] due = {"outer", "x", "v", "a", "inner", "v", "inner", "v", "b", "", "", "u", "inner", "v", "w", "inner", "v", "", "f", "p",
            "q", "m", "t", "y", "c"};
        Check.due("nodes", x.faults(0, 2), due.length);
        for (int n = 0; n < due.length; n++) {
            Check.due("name of " + n, Check.name(x, 0, n, 0), due[n]);
        }
    }
}
