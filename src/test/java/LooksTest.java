/** Promises 33 to 40. */
public final class LooksTest {
    public static void main(String[] args) {
        search();
        masked();
        magic();
        covered();
        gap();
        differ();
        hex();
        count();
        Check.end();
    }

    private static void search() {
        OverlayViewer x = new OverlayViewer();
        Check.image(x, 1, 2, 1, 2, 1, 1, 1);
        Check.due("1", x.search(0, 1, 1, false, 0), 0);
        Check.due("1, the last", x.search(0, 1, 1, false, 4), 6);
        Check.due("1, one more", x.search(0, 1, 1, false, 5), Check.NONE);
        Check.due("lowest first", x.search(0, 0x0201, 2, false, 1), 2);
        Check.due("highest first", x.search(0, 0x0201, 2, true, 0), 1);
        Check.due("only the lowest count", x.search(0, 0x7f0201, 2, true, 1), 3);
        Check.due("they may overlap", x.search(0, 0x0101, 2, true, 1), 5);
        Check.due("k -1", x.search(0, 1, 1, true, -1), Check.NONE);
        Check.due("width 0", x.search(0, 1, 0, true, 0), Check.NONE);
        Check.due("width 9", x.search(0, 1, 9, true, 0), Check.NONE);
        Check.due("width 8, beyond", x.search(0, 1, 8, true, 0), Check.NONE);
        Check.due("width 7", x.search(0, 0x01020102010101L, 7, true, 0), 0);
        Check.due("no image", x.search(1, 1, 1, true, 0), Check.NONE);
        x.layer(0);
        x.poke(0, 0, 9);
        Check.due("what the image has", x.search(0, 1, 1, true, 0), 2);
        Check.image(x, 0x88, 0x77, 0x66, 0x55, 0x44, 0x33, 0x22, 0x11);
        Check.due("width 8", x.search(1, 0x1122334455667788L, 8, false, 0), 0);
        Check.due("width 8", x.search(1, 0x8877665544332211L, 8, true, 0), 0);
    }

    private static void masked() {
        OverlayViewer x = new OverlayViewer();
        Check.image(x, 0x12, 0x34, 0x16, 0x3f, 0x12);
        Check.due("an empty tape", x.masked(0, 0), Check.NONE);
        x.feed(0x1231f0f0L, 4);
        Check.due("first", x.masked(0, 0), 0);
        Check.due("second", x.masked(0, 1), 2);
        Check.due("third", x.masked(0, 2), Check.NONE);
        Check.due("k -1", x.masked(0, -1), Check.NONE);
        Check.due("no image", x.masked(1, 0), Check.NONE);
        Check.due("the tape stays", x.count(1), 4);
        x.cut(3);
        Check.due("not even", x.masked(0, 0), Check.NONE);
        x.cut(0);
        x.feed(0xaa00L, 2);
        Check.due("nothing counts", x.masked(0, 4), 4);
        x.cut(0);
        x.feed(0x12ffL, 2);
        Check.due("all count", x.masked(0, 1), 4);
        x.cut(0);
        x.feed(0, 8);
        x.feed(0, 4);
        Check.due("longer than the image", x.masked(0, 0), Check.NONE);
    }

    private static void magic() {
        OverlayViewer x = Check.viewer("struct a{magic m=1 * 3;}struct b{u1 n;magic m=1;}struct c{if 1:magic m=1;}struct d{}",
                1, 1, 3, 1, 3, 3);
        Check.due("first", x.magic(0, 0, 0), 0);
        Check.due("second", x.magic(0, 0, 1), 3);
        Check.due("third", x.magic(0, 0, 2), Check.NONE);
        Check.due("k -1", x.magic(0, 0, -1), Check.NONE);
        Check.due("not the first field", x.magic(0, 1, 0), Check.NONE);
        Check.due("with if", x.magic(0, 2, 0), Check.NONE);
        Check.due("no fields", x.magic(0, 3, 0), Check.NONE);
        Check.due("no structure", x.magic(0, 4, 0), Check.NONE);
        Check.due("no structure", x.magic(0, -1, 0), Check.NONE);
        Check.due("no image", x.magic(1, 0, 0), Check.NONE);
    }

    private static void covered() {
        OverlayViewer x = Check.viewer("struct p{u1 v;}struct s{u1 a;bits u1 b{p:1,q:1};to p w by u1;p x;text t[0];u1 y;}",
                9, 9, 3, 9, 9, 9, 9);
        x.lay(0, 1, 0);
        Check.due("a whole", x.covered(0, 0), 1);
        Check.due("the first of several parts", x.covered(0, 1), 3);
        Check.due("a pointer", x.covered(0, 2), 5);
        Check.due("by way of the pointer it is further away", x.covered(0, 3), 7);
        Check.due("the last", x.covered(0, 4), 11);
        Check.due("behind it", x.covered(0, 5), Check.NONE);
        Check.due("-1", x.covered(0, -1), Check.NONE);
        Check.due("far beyond", x.covered(0, 5000), Check.NONE);
        Check.due("no tree", x.covered(1, 0), Check.NONE);
    }

    private static void gap() {
        OverlayViewer x = Check.viewer("struct p{u1 v;}struct s{u1 a;to p w by u1;p x[1];}", 9, 6, 9, 9, 9, 9, 9, 9);
        x.lay(0, 1, 0);
        Check.due("gap 0 begins", x.gap(0, 0, 0), 3);
        Check.due("gap 0 ends", x.gap(0, 0, 1), 6);
        Check.due("gap 1 begins", x.gap(0, 1, 0), 7);
        Check.due("gap 1 ends", x.gap(0, 1, 1), 8);
        Check.due("gap 2", x.gap(0, 2, 0), Check.NONE);
        Check.due("gap -1", x.gap(0, -1, 0), Check.NONE);
        Check.due("what 2", x.gap(0, 0, 2), Check.NONE);
        Check.due("what -1", x.gap(0, 0, -1), Check.NONE);
        Check.due("no tree", x.gap(1, 0, 0), Check.NONE);
        x.push(0, 1, 1);
        Check.due("the image is longer now", x.gap(0, 1, 1), 9);
        x.lay(0, 1, 2);
        Check.due("ahead of it", x.gap(1, 0, 0), 0);
        Check.due("ahead of it", x.gap(1, 0, 1), 2);
        Check.describe(x, "struct s{}");
        x.lay(0, 0, 0);
        Check.due("nothing covers", x.gap(0, 0, 1), 9);
        Check.describe(x, "struct s{u1 a[9];}");
        x.lay(0, 0, 0);
        Check.due("all is covered", x.gap(0, 0, 0), Check.NONE);
        OverlayViewer y = new OverlayViewer();
        Check.filled(y, 2000, 1);
        Check.describe(y, "struct s{text a[2000];}");
        y.lay(0, 0, 0);
        Check.due("all of 2000", y.gap(0, 0, 0), Check.NONE);
    }

    private static void differ() {
        OverlayViewer x = new OverlayViewer();
        Check.image(x, 1, 2, 3, 4, 5);
        Check.image(x, 1, 9, 9, 4, 5, 6, 7);
        Check.image(x);
        Check.due("begins", x.differ(0, 1, 0, 0), 1);
        Check.due("ends", x.differ(0, 1, 0, 1), 3);
        Check.due("begins", x.differ(1, 0, 1, 0), 5);
        Check.due("ends", x.differ(0, 1, 1, 1), 7);
        Check.due("no more", x.differ(0, 1, 2, 0), Check.NONE);
        Check.due("k -1", x.differ(0, 1, -1, 0), Check.NONE);
        Check.due("what 2", x.differ(0, 1, 0, 2), Check.NONE);
        Check.due("itself", x.differ(0, 0, 0, 0), Check.NONE);
        Check.due("an empty one", x.differ(2, 0, 0, 1), 5);
        Check.due("no image", x.differ(0, 3, 0, 0), Check.NONE);
        Check.due("no image", x.differ(-1, 0, 0, 0), Check.NONE);
        x.layer(0);
        x.poke(0, 1, 9);
        Check.due("what they have", x.differ(0, 1, 0, 0), 2);
        // a byte 255 is not the same as none
        Check.image(x, 255);
        Check.due("255 and none", x.differ(3, 2, 0, 1), 1);
    }

    private static String line(OverlayViewer x, int im, int row) {
        StringBuilder all = new StringBuilder();
        for (int i = 0; x.hex(im, row, i) != Check.NONE; i++) {
            all.append((char) x.hex(im, row, i));
        }
        return all.toString();
    }

    private static void hex() {
        OverlayViewer x = new OverlayViewer();
        Check.image(x, 0, 31, 32, 65, 126, 127, 255, 171, 48, 49, 50, 51, 52, 53, 54, 55, 124, 10);
        Check.due("row 0", line(x, 0, 0), "0000: 00 1f 20 41 7e 7f ff ab 30 31 32 33 34 35 36 37 |.. A~...01234567|");
        Check.due("row 1", line(x, 0, 1), "0010: 7c 0a                                           ||.|");
        Check.due("row 2", x.hex(0, 2, 0), Check.NONE);
        Check.due("row -1", x.hex(0, -1, 0), Check.NONE);
        Check.due("a great row", x.hex(0, 0x10000000, 0), Check.NONE);
        Check.due("i -1", x.hex(0, 0, -1), Check.NONE);
        Check.due("behind the end", x.hex(0, 0, 72), Check.NONE);
        Check.due("no image", x.hex(1, 0, 0), Check.NONE);
        OverlayViewer y = new OverlayViewer();
        Check.filled(y, 2000, 66);
        Check.due("the last row", line(y, 0, 124).substring(0, 8), "07c0: 42");
        Check.due("beyond", y.hex(0, 125, 0), Check.NONE);
        y.layer(0);
        y.poke(0, 0, 67);
        Check.due("what it has", y.hex(0, 0, 55), 67);
    }

    private static void count() {
        OverlayViewer x = Check.viewer("enum e{a=1}enum f{a=1}struct p{u1 v;}struct q{u1 v;}struct r{u1 v;}", 9, 6);
        Check.image(x, 1);
        Check.feed(x, "abcde");
        x.lay(0, 0, 0);
        x.lay(1, 1, 0);
        x.layer(0);
        x.poke(0, 0, 1);
        x.poke(0, 0, 1);
        x.layer(0);
        x.layer(1);
        x.poke(1, 0, 1);
        int[] due = {2, 5, 3, 2, 2, 4, 3, 3};
        for (int what = 0; what < 8; what++) {
            Check.due("count(" + what + ")", x.count(what), due[what]);
        }
        Check.due("count(8)", x.count(8), Check.NONE);
        Check.due("count(-1)", x.count(-1), Check.NONE);
    }
}
