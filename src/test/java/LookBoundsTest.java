/** Promises 33 to 40: the looks; each sentence that names a bound. */
public final class LookBoundsTest {
    private static final int[] NO_NUMBERS = {-1, 6, 400, Integer.MIN_VALUE, Integer.MAX_VALUE};

    public static void main(String[] args) {
        searchWidths();
        searchEnds();
        searchRefusals();
        maskedBounds();
        maskedLengths();
        maskedOfALongTape();
        magicBounds();
        magicIsTheFirstField();
        coveredBounds();
        coveredIsTheFarthest();
        gapBounds();
        gapOfEachKind();
        gapOfAFullImage();
        differBounds();
        differLengths();
        hexLines();
        hexCharacters();
        hexRows();
        countBounds();
        Check.end();
    }

    private static void searchWidths() {
        Check.says("search: as many BYTES as width says (1 .. 8) that are the lowest ones of v, the lowest first (big: the highest first)");
        OverlayViewer x = new OverlayViewer();
        Check.image(x, 0xf8, 0xf7, 0xf6, 0xf5, 0xf4, 0xf3, 0xf2, 0xf1, 0xf2, 0xf3, 0xf4, 0xf5, 0xf6, 0xf7, 0xf8);
        for (int width = 1; width <= 8; width++) {
            // the lowest bytes of this are f8, f7 ..
            long v = 0xf1f2f3f4f5f6f7f8L;
            Check.due("lowest first, " + width, x.search(0, v, width, false, 0), 0);
            Check.due("highest first, " + width, x.search(0, v, width, true, 0), width == 1 ? 0 : 15 - width);
            Check.due("higher bytes do not count, " + width, x.search(0, width == 8 ? v : v & (1L << 8 * width) - 1, width, false, 0), 0);
            Check.due("only once, " + width, x.search(0, v, width, false, 1), width == 1 ? 14 : Check.NONE);
        }
        for (int width : new int[] {0, 9, -1, 64, Integer.MIN_VALUE, Integer.MAX_VALUE}) {
            Check.due("width " + width, x.search(0, 0xf8, width, false, 0), Check.NONE);
            Check.due("width " + width, x.search(0, 0xf8, width, true, 0), Check.NONE);
        }
    }

    private static void searchEnds() {
        Check.says("search: The k-th PLACE, rising, at which an IMAGE HAS");
        OverlayViewer x = new OverlayViewer();
        Check.image(x, 7, 7, 7, 1, 7, 7);
        int[] due = {0, 1, 2, 4, 5, Check.NONE, Check.NONE};
        int[] twice = {0, 1, 4, Check.NONE};
        for (int k = 0; k < due.length; k++) {
            Check.due("one, k " + k, x.search(0, 7, 1, false, k), due[k]);
        }
        for (int k = 0; k < twice.length; k++) {
            Check.due("two, k " + k, x.search(0, 0x0707, 2, false, k), twice[k]);
        }
        Check.due("all of it", x.search(0, 0x070707010707L, 6, true, 0), 0);
        Check.due("longer than it is", x.search(0, 0, 7, true, 0), Check.NONE);
        Check.due("half beyond its end", x.search(0, 0x0700, 2, true, 0), Check.NONE);
        x.layer(0);
        x.poke(0, 3, 7);
        Check.due("what it has", x.search(0, 7, 1, false, 3), 3);
        x.drop(0);
        Check.due("its own", x.search(0, 7, 1, false, 3), 4);
        x.image();
        Check.due("an empty one", x.search(1, 0, 1, false, 0), Check.NONE);
        OverlayViewer y = new OverlayViewer();
        Check.filled(y, 2000, 3);
        Check.due("the last place", y.search(0, 3, 1, false, 1999), 1999);
        Check.due("beyond", y.search(0, 3, 1, false, 2000), Check.NONE);
        Check.due("the last of 8", y.search(0, 0x0303030303030303L, 8, false, 1992), 1992);
        Check.due("beyond", y.search(0, 0x0303030303030303L, 8, false, 1993), Check.NONE);
    }

    private static void searchRefusals() {
        Check.says("search: NONE (another width, too; k below 0 or beyond, too)");
        OverlayViewer x = new OverlayViewer();
        Check.image(x, 7);
        for (int none : NO_NUMBERS) {
            Check.due("image " + none, x.search(none, 7, 1, false, 0), Check.NONE);
            Check.due("k " + none, x.search(0, 7, 1, false, none), Check.NONE);
        }
        Check.due("k 1", x.search(0, 7, 1, false, 1), Check.NONE);
        Check.due("k 0", x.search(0, 7, 1, false, 0), 0);
        Check.due("-1 is 255", x.search(0, -1, 1, false, 0), Check.NONE);
        x.poke(0, 0, 255);
        Check.due("-1 is 255", x.search(0, -1, 1, false, 0), 0);
    }

    private static void maskedBounds() {
        Check.says("masked: those of its first half, but only the bits that are 1 in its second half count");
        OverlayViewer x = new OverlayViewer();
        Check.image(x, 0x0f, 0xf0, 0xff, 0x00, 0x0f);
        x.feed(0x0f0f, 2);
        int[] low = {0, 2, 4, Check.NONE};
        for (int k = 0; k < low.length; k++) {
            Check.due("low bits, k " + k, x.masked(0, k), low[k]);
        }
        x.cut(0);
        x.feed(0xff00, 2);
        Check.due("no bits", x.masked(0, 0), 0);
        Check.due("no bits", x.masked(0, 4), 4);
        Check.due("no bits", x.masked(0, 5), Check.NONE);
        x.cut(0);
        x.feed(0xf080, 2);
        int[] high = {1, 2, Check.NONE};
        for (int k = 0; k < high.length; k++) {
            Check.due("one bit, k " + k, x.masked(0, k), high[k]);
        }
        x.cut(0);
        x.feed(0xff00f0ffL, 4);
        Check.due("f. 00", x.masked(0, 0), 2);
        Check.due("f. 00", x.masked(0, 1), Check.NONE);
        for (int none : NO_NUMBERS) {
            Check.due("k " + none, x.masked(0, none), Check.NONE);
            Check.due("image " + none, x.masked(none, 0), Check.NONE);
        }
        Check.due("THE TAPE stays", x.count(1), 4);
        x.layer(0);
        x.poke(0, 0, 0);
        Check.due("what it has", x.masked(0, 0), 2);
        x.poke(0, 1, 0);
        x.poke(0, 2, 0);
        Check.due("what it has", x.masked(0, 0), Check.NONE);
    }

    private static void maskedLengths() {
        Check.says("masked: of half as many BYTES as THE TAPE has (which stays). NONE (also if THE TAPE is empty, or has not an even number).");
        OverlayViewer x = new OverlayViewer();
        Check.image(x, 0, 0, 0, 0);
        Check.due("empty", x.masked(0, 0), Check.NONE);
        for (int n = 1; n <= 10; n++) {
            Check.due("feed", x.feed(0, 1), n);
            int half = n / 2;
            boolean fine = n % 2 == 0 && half <= 4;
            Check.due("tape of " + n, x.masked(0, 0), fine ? 0 : Check.NONE);
            Check.due("the last with a tape of " + n, x.masked(0, fine ? 4 - half : 0), fine ? 4 - half : Check.NONE);
            Check.due("beyond with a tape of " + n, x.masked(0, fine ? 5 - half : 1), Check.NONE);
            Check.due("THE TAPE stays", x.count(1), n);
        }
    }

    private static void maskedOfALongTape() {
        Check.says("masked: of half as many BYTES as THE TAPE has");
        // 1300 BYTES that are all 5, of which each counts whole; a full TAPE and its BYTES would be more than 512 calls
        OverlayViewer x = new OverlayViewer();
        Check.feed(x, "\5".repeat(1300) + "\u00ff".repeat(1300));
        Check.due("tape", x.count(1), 2600);
        Check.filled(x, 1304, 5);
        Check.due("the first", x.masked(0, 0), 0);
        Check.due("the last", x.masked(0, 4), 4);
        Check.due("beyond", x.masked(0, 5), Check.NONE);
        x.poke(0, 1303, 4);
        Check.due("the last byte counts", x.masked(0, 4), Check.NONE);
        Check.due("the others stay", x.masked(0, 3), 3);
    }

    private static void magicBounds() {
        Check.says("magic: Likewise of the MAGIC that is the first field of a structure");
        OverlayViewer x = Check.viewer("struct a{magic m=1 * 3;}struct b{magic m=*;}struct c{magic m=0 255;}struct d{magic m=" + "7 ".repeat(16) + ";}",
                1, 0, 3, 1, 255, 3, 1, 3, 0, 255);
        int[] a = {0, 3, Check.NONE};
        for (int k = 0; k < a.length; k++) {
            Check.due("a, k " + k, x.magic(0, 0, k), a[k]);
        }
        for (int k = 0; k < 10; k++) {
            Check.due("b, k " + k, x.magic(0, 1, k), k);
        }
        Check.due("b, k 10", x.magic(0, 1, 10), Check.NONE);
        Check.due("c", x.magic(0, 2, 0), 8);
        Check.due("c, k 1", x.magic(0, 2, 1), Check.NONE);
        Check.due("d is longer", x.magic(0, 3, 0), Check.NONE);
        Check.filled(x, 17, 7);
        Check.due("d", x.magic(1, 3, 0), 0);
        Check.due("d, k 1", x.magic(1, 3, 1), 1);
        Check.due("d, k 2", x.magic(1, 3, 2), Check.NONE);
        x.poke(1, 15, 8);
        Check.due("d, its last byte", x.magic(1, 3, 0), Check.NONE);
        for (int none : NO_NUMBERS) {
            Check.due("k " + none, x.magic(0, 2, none), Check.NONE);
            Check.due("image " + none, x.magic(none, 0, 0), Check.NONE);
            Check.due("structure " + none, x.magic(0, none, 0), Check.NONE);
        }
        Check.due("structure 4", x.magic(0, 4, 0), Check.NONE);
        Check.due("image 2", x.magic(2, 0, 0), Check.NONE);
        x.layer(0);
        x.poke(0, 0, 9);
        Check.due("what it has", x.magic(0, 0, 0), 3);
    }

    private static void magicIsTheFirstField() {
        Check.says("magic: the MAGIC that is the first field of a structure (without if). NONE (also if it is none).");
        OverlayViewer x = Check.viewer("struct z{}struct a{magic m=1;u1 b;}struct b{u1 a;magic m=1;}struct c{if 1:magic m=1;}struct d{if 0:u1 a;magic m=1;}"
                + "struct e{pad 1;magic m=1;}struct f{a m;}struct g{u1 m;}struct h{text t[1];}struct i{bits u1 b{p:1};}struct j{union u by 1{1:a;};}"
                + "struct k{to a p by u1;}struct l{sum add u1 c of 0,0;}struct m{a x[1];}struct n{magic m=1;magic q=2;}", 1, 2, 1, 2);
        for (int s = 0; s < 15; s++) {
            boolean first = s == 1 || s == 14;
            Check.due("structure " + s, x.magic(0, s, 0), first ? 0 : Check.NONE);
            Check.due("structure " + s, x.magic(0, s, 1), first ? 2 : Check.NONE);
        }
        Check.describe(x, "enum e{a=1}");
        Check.due("enums alone", x.magic(0, 0, 0), Check.NONE);
    }

    private static void coveredBounds() {
        Check.says("covered: of those with FROM up to the PLACE and TO behind it. NONE.");
        OverlayViewer x = Check.viewer("struct s{u1 a;u2 b;text c[0];}", 1, 2, 3, 4, 5, 6);
        x.lay(0, 0, 2);
        int[] due = {Check.NONE, Check.NONE, 1, 2, 2, Check.NONE, Check.NONE};
        for (int place = 0; place < due.length; place++) {
            Check.due("place " + place, x.covered(0, place), due[place]);
        }
        for (int none : NO_NUMBERS) {
            Check.due("place " + none, x.covered(0, none), Check.NONE);
            Check.due("tree " + none, x.covered(none, 2), Check.NONE);
        }
        Check.due("tree 1", x.covered(1, 2), Check.NONE);
    }

    private static void coveredIsTheFarthest() {
        Check.says("covered: The NODE that is the most parents away from NODE 0; of several the first one");
        OverlayViewer x = Check.laid("struct q{u1 v;u1 w;}struct p{q x;}struct s{u1 a;to p b by u1;u1 c[2];bits u1 d{e:1,f:1};q g;pad 12;}",
                9, 0, 7, 7, 3, 5, 6, 0, 0, 0, 0, 0, 1);
        // NODES: 0 s, 1 a, 2 b, 3 p, 4 x, 5 v, 6 w, 7 c, 8, 9, 10 d, 11 e, 12 f, 13 g, 14 v, 15 w, 16 pad
        int[] due = {5, 6, 8, 9, 11, 14, 15, 16, 16, 16, 16, 16, Check.NONE};
        Check.due("nodes", x.faults(0, 2), 17);
        for (int place = 0; place < due.length; place++) {
            Check.due("place " + place, x.covered(0, place), due[place]);
        }
        // a STRUCT alone, a UNION, an ARRAY that nothing within covers
        OverlayViewer y = Check.laid("struct t{u1 a;u4 b;u1 c;}struct s{to t h by u1;}", 1, 5);
        Check.due("place 0", y.covered(0, 0), 1);
        Check.due("place 1", y.covered(0, 1), 3);
        // two NODES equally far: the one that was made first
        OverlayViewer z = Check.laid("struct t{u1 a;}struct s{to t b by u1;to t c by u1;}", 2, 2, 9);
        Check.due("place 2", z.covered(0, 2), 3);
    }

    private static void gapBounds() {
        Check.says("gap: The k-th stretch, rising, as long as can be, of PLACES of the TREE's IMAGE that are in no NODE: what 0 where it begins, "
                + "1 behind its end. NONE.");
        OverlayViewer x = Check.viewer("struct p{u1 v;}struct s{u1 a;to p b by u1;to p c by u1;}", 0, 0, 1, 7, 5, 0, 0, 0, 0, 0);
        x.lay(0, 1, 2);
        // 2, 3, 4, and 7 and 5 are covered
        int[][] due = {{0, 2}, {6, 7}, {8, 10}, {Check.NONE, Check.NONE}};
        for (int k = 0; k < due.length; k++) {
            Check.due("begin of " + k, x.gap(0, k, 0), due[k][0]);
            Check.due("end of " + k, x.gap(0, k, 1), due[k][1]);
        }
        for (int what : new int[] {-1, 2, Integer.MIN_VALUE, Integer.MAX_VALUE}) {
            Check.due("what " + what, x.gap(0, 0, what), Check.NONE);
        }
        for (int what = 0; what < 2; what++) {
            for (int none : NO_NUMBERS) {
                Check.due("k " + none, x.gap(0, none, what), Check.NONE);
                Check.due("tree " + none, x.gap(none, 0, what), Check.NONE);
            }
            Check.due("tree 1", x.gap(1, 0, what), Check.NONE);
        }
        x.push(0, 0, 1);
        Check.due("a longer image", x.gap(0, 2, 1), 11);
        // NODES over one another
        OverlayViewer y = Check.laid("struct p{u2 v;}struct s{u1 a;to p b by u1;u1 c;}", 9, 1, 9, 9, 9);
        Check.due("begin", y.gap(0, 0, 0), 3);
        Check.due("end", y.gap(0, 0, 1), 5);
        Check.due("no more", y.gap(0, 1, 0), Check.NONE);
    }

    private static void gapOfEachKind() {
        Check.says("gap: in no NODE but STRUCTS, ARRAYS, UNIONS");
        String[] fields = {"u2 a;", "bits u2 a{p:1};", "text a[2];", "text a until 7;", "to e a by u2;", "pad 4;", "magic a=1 2;", "sum add u2 a of 0,0;",
            "u1 a[2];", "t a;", "t a[2];", "union a by 1{1:t;};"};
        for (String field : fields) {
            OverlayViewer x = Check.laid("struct e{}struct t{u1 v;}struct s{text h[2];" + field + "}", 0, 0, 0, 7, 0, 0);
            boolean two = !(field.equals("t a;") || field.equals("union a by 1{1:t;};"));
            Check.due("begin behind " + field, x.gap(0, 0, 0), two ? 4 : 3);
            Check.due("end behind " + field, x.gap(0, 0, 1), 6);
            Check.due("no more", x.gap(0, 1, 0), Check.NONE);
        }
        // a STRUCT, an ARRAY or a UNION that is FROM up to a PLACE covers none by itself: its KIDS do
        for (String field : new String[] {"t a;", "t a[1];", "union a by 1{1:t;};"}) {
            OverlayViewer x = Check.viewer("struct t{u1 v;}struct s{" + field + "}", 1, 2, 3);
            x.lay(0, 1, 1);
            Check.due("ahead of " + field, x.gap(0, 0, 0) * 10 + x.gap(0, 0, 1), 1);
            Check.due("behind " + field, x.gap(0, 1, 0) * 10 + x.gap(0, 1, 1), 23);
            Check.due("no more", x.gap(0, 2, 0), Check.NONE);
        }
    }

    private static void gapOfAFullImage() {
        Check.says("gap: PLACES of the TREE's IMAGE");
        OverlayViewer x = new OverlayViewer();
        Check.filled(x, 2000, 1);
        Check.describe(x, "struct s{text a[2000];}struct t{}struct q{text a[1999];}struct r{u1 a;}");
        x.lay(0, 0, 0);
        Check.due("all is covered", x.gap(0, 0, 0), Check.NONE);
        Check.due("all is covered", x.gap(0, 0, 1), Check.NONE);
        x.lay(0, 1, 2000);
        Check.due("none is covered", x.gap(1, 0, 0), 0);
        Check.due("none is covered", x.gap(1, 0, 1), 2000);
        x.lay(0, 2, 0);
        Check.due("the last is not", x.gap(2, 0, 0), 1999);
        Check.due("the last is not", x.gap(2, 0, 1), 2000);
        x.lay(0, 2, 1);
        Check.due("the first is not", x.gap(3, 0, 1), 1);
        x.lay(0, 3, 1999);
        Check.due("the last alone is", x.gap(4, 0, 1), 1999);
        Check.due("no more", x.gap(4, 1, 0), Check.NONE);
        OverlayViewer y = Check.laid("struct s{}");
        Check.due("an empty image", y.gap(0, 0, 0), Check.NONE);
    }

    private static void differBounds() {
        Check.says("differ: The k-th stretch, rising, as long as can be, in which two IMAGES HAVE unlike BYTES: what 0 where it begins, 1 behind its "
                + "end. NONE.");
        OverlayViewer x = new OverlayViewer();
        Check.image(x, 9, 1, 2, 2, 3, 9);
        Check.image(x, 8, 1, 7, 7, 3, 8);
        int[][] due = {{0, 1}, {2, 4}, {5, 6}, {Check.NONE, Check.NONE}};
        for (int k = 0; k < due.length; k++) {
            for (int what = 0; what < 2; what++) {
                Check.due("k " + k + " what " + what, x.differ(0, 1, k, what), due[k][what]);
                Check.due("the other way, k " + k + " what " + what, x.differ(1, 0, k, what), due[k][what]);
                Check.due("itself", x.differ(0, 0, k, what), Check.NONE);
            }
        }
        for (int what : new int[] {-1, 2, Integer.MIN_VALUE, Integer.MAX_VALUE}) {
            Check.due("what " + what, x.differ(0, 1, 0, what), Check.NONE);
        }
        for (int none : NO_NUMBERS) {
            Check.due("k " + none, x.differ(0, 1, none, 0), Check.NONE);
            Check.due("image " + none, x.differ(none, 1, 0, 0), Check.NONE);
            Check.due("other " + none, x.differ(0, none, 0, 0), Check.NONE);
            Check.due("both " + none, x.differ(none, none, 0, 0), Check.NONE);
        }
        Check.due("image 2", x.differ(2, 0, 0, 0), Check.NONE);
        Check.due("other 2", x.differ(0, 2, 0, 0), Check.NONE);
        x.layer(0);
        x.poke(0, 0, 8);
        Check.due("what they have", x.differ(0, 1, 0, 0), 2);
        x.layer(1);
        x.poke(1, 1, 0);
        Check.due("what they have", x.differ(0, 1, 0, 0), 1);
        Check.due("what they have", x.differ(0, 1, 0, 1), 4);
    }

    private static void differLengths() {
        Check.says("differ: (at a PLACE that one of them alone has, too)");
        OverlayViewer x = new OverlayViewer();
        Check.image(x, 1, 2);
        Check.image(x, 1, 2, 0, 255);
        Check.image(x);
        Check.image(x, 1, 9);
        Check.image(x);
        Check.due("begins", x.differ(0, 1, 0, 0), 2);
        Check.due("ends", x.differ(0, 1, 0, 1), 4);
        Check.due("begins", x.differ(1, 0, 0, 0), 2);
        Check.due("ends", x.differ(1, 0, 0, 1), 4);
        Check.due("no more", x.differ(1, 0, 1, 0), Check.NONE);
        Check.due("an empty one", x.differ(0, 2, 0, 0), 0);
        Check.due("an empty one", x.differ(2, 0, 0, 1), 2);
        Check.due("it goes on", x.differ(3, 1, 0, 0), 1);
        Check.due("it goes on", x.differ(3, 1, 0, 1), 4);
        Check.due("two empty ones", x.differ(2, 4, 0, 0), Check.NONE);
        OverlayViewer y = new OverlayViewer();
        Check.filled(y, 2000, 1);
        y.image();
        Check.due("2000", y.differ(0, 1, 0, 1), 2000);
        Check.due("2000", y.differ(1, 0, 0, 0), 0);
    }

    private static String line(OverlayViewer x, int im, int row) {
        StringBuilder all = new StringBuilder();
        for (int i = 0; x.hex(im, row, i) != Check.NONE; i++) {
            all.append((char) x.hex(im, row, i));
        }
        return all.toString();
    }

    private static void hexLines() {
        Check.says("hex: four figures for 16 * row, :, for each of these that there is a blank and two figures, for each that is not three blanks, a "
                + "blank, |, for each that there is it itself, and |");
        for (int length = 1; length <= 17; length++) {
            OverlayViewer x = new OverlayViewer();
            Check.filled(x, length, 0x41);
            int there = Math.min(16, length);
            String due = "0000:" + " 41".repeat(there) + "   ".repeat(16 - there) + " |" + "A".repeat(there) + "|";
            Check.due("line of " + length, line(x, 0, 0), due);
            Check.due("behind its end", x.hex(0, 0, 56 + there), Check.NONE);
            Check.due("ahead", x.hex(0, 0, -1), Check.NONE);
            for (int i : Check.FAR) {
                Check.due("far", x.hex(0, 0, i), Check.NONE);
            }
            Check.due("row 1", line(x, 0, 1), length == 17 ? "0010: 41" + "   ".repeat(15) + " |A|" : "");
            Check.due("row 2", x.hex(0, 2, 0), Check.NONE);
        }
    }

    private static void hexCharacters() {
        Check.says("hex: it itself, if it is 32 .. 126, else . Figures are 0 .. 9, a .. f.");
        for (int first = 0; first < 256; first += 16) {
            int[] row = new int[16];
            for (int i = 0; i < 16; i++) {
                row[i] = first + i;
            }
            OverlayViewer x = new OverlayViewer();
            Check.image(x, row);
            for (int i = 0; i < 16; i++) {
                int b = row[i];
                String figures = String.format("%02x", b);
                Check.due("a blank ahead of " + b, x.hex(0, 0, 5 + 3 * i), ' ');
                Check.due("first figure of " + b, x.hex(0, 0, 6 + 3 * i), figures.charAt(0));
                Check.due("second figure of " + b, x.hex(0, 0, 7 + 3 * i), figures.charAt(1));
                Check.due("itself of " + b, x.hex(0, 0, 55 + i), b >= 32 && b <= 126 ? b : '.');
            }
        }
    }

    private static void hexRows() {
        Check.says("hex: about the BYTES 16 * row to 16 * row + 15 of an IMAGE. NONE (a row without BYTES, too).");
        OverlayViewer x = new OverlayViewer();
        Check.image(x);
        Check.due("an empty image", x.hex(0, 0, 0), Check.NONE);
        x.push(0, 0x61, 1);
        Check.due("one BYTE", x.hex(0, 0, 3), '0');
        Check.due("one BYTE", x.hex(0, 1, 3), Check.NONE);
        for (int row : new int[] {-1, Integer.MIN_VALUE, Integer.MAX_VALUE, 0x10000000, 0x08000000, 0x0fffffff, -0x10000000}) {
            Check.due("row " + row, x.hex(0, row, 0), Check.NONE);
            Check.due("row " + row, x.hex(0, row, 55), Check.NONE);
        }
        for (int none : NO_NUMBERS) {
            Check.due("image " + none, x.hex(none, 0, 0), Check.NONE);
        }
        Check.due("image 1", x.hex(1, 0, 0), Check.NONE);
        x.layer(0);
        x.poke(0, 0, 0x62);
        Check.due("as it HAS it", x.hex(0, 0, 55), 'b');
        OverlayViewer y = new OverlayViewer();
        Check.filled(y, 2000, 0x7a);
        for (int row = 0; row < 125; row++) {
            String figures = String.format("%04x:", 16 * row);
            StringBuilder got = new StringBuilder();
            for (int i = 0; i < (row % 31 == 0 ? 5 : 1); i++) {
                got.append((char) y.hex(0, row, i));
            }
            Check.due("row " + row, got.toString(), figures.substring(0, got.length()));
        }
        Check.due("the last one", y.hex(0, 124, 2), 'c');
        Check.due("row 125", y.hex(0, 125, 0), Check.NONE);
        // a row that has BYTES only by counting 15 to a row
        OverlayViewer z = new OverlayViewer();
        Check.filled(z, 160, 1);
        Check.due("row 9", z.hex(0, 9, 0), '0');
        Check.due("row 10", z.hex(0, 10, 0), Check.NONE);
    }

    private static void countBounds() {
        Check.says("count: 0 IMAGES, 1 bytes of THE TAPE, 2 structures, 3 enums, 4 TREES, 5 NODES of all TREES, 6 LAYERS of all IMAGES, 7 kept WRITES of "
                + "all these. NONE.");
        OverlayViewer x = Check.viewer("enum e{a=1}enum f{a=1}enum g{a=1}struct p{u1 v;}struct q{u1 v;u1 w;}", 9, 6);
        Check.image(x, 1);
        Check.image(x, 1);
        Check.image(x, 1);
        Check.feed(x, "abcdefghijk");
        x.lay(0, 0, 0);
        x.lay(0, 1, 0);
        x.lay(1, 1, 0);
        x.layer(0);
        x.layer(0);
        x.poke(0, 0, 1);
        x.layer(3);
        x.poke(3, 0, 1);
        x.poke(3, 0, 1);
        x.layer(0);
        int[] due = {4, 11, 2, 3, 3, 8, 4, 3};
        for (int what = 0; what < 8; what++) {
            Check.due("count(" + what + ")", x.count(what), due[what]);
        }
        for (int what : new int[] {-1, 8, 9, Integer.MIN_VALUE, Integer.MAX_VALUE}) {
            Check.due("count(" + what + ")", x.count(what), Check.NONE);
        }
    }
}
