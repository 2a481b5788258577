/**
 * Part 5 of the document: REFUSALS change nothing (but THE TAPE). Each refused call is done on one of two objects that have had the
 * same calls; all that can be asked of the two is the same then.
 */
public final class RefusalsTest {
    private static final String TEXT = "enum e{a=1,b=2}struct e0{}struct many{e0 a[200];e0 b[200];}struct t{magic m=5;}"
            + "struct s{u1 n is e;u1 a[n];text b[1];text c until 0;bits u1 d{p:4,q:4};sum add u1 g of 0,n;to t h by u1;sum xor u1 i of 0,99;u4 z;}";
    /** The NODES of TREE 0. */
    private static final int N = 1, ARRAY = 2, TEXT_B = 5, TEXT_C = 6, BITS = 7, PART_P = 8, SUM = 10, POINTER = 11, FAR_SUM = 12, OUTSIDE_NODE = 13;

    /** A call, or several. */
    private interface Step {
        long on(OverlayViewer x);
    }

    private static final Step NOTHING = x -> 0;

    public static void main(String[] args) {
        Check.says("REFUSALS .. They change nothing (but THE TAPE).");
        busyIsAsThought();
        images();
        layers();
        writes();
        tapes();
        descriptions();
        lays();
        fullTrees();
        treeLooks();
        texts();
        edits();
        looks();
        Check.end();
    }

    /** Three images, two of them with BYTES, one with LAYERS; two TREES; something on THE TAPE; a FAULT and an out() that are not 0. */
    private static OverlayViewer busy() {
        OverlayViewer x = new OverlayViewer();
        x.image();
        x.push(0, 0x0207084142430031L, 8);
        x.push(0, 0x0963010203L, 5);
        x.image();
        x.push(1, 0x05060705L, 4);
        x.image();
        Check.describe(x, TEXT);
        x.lay(0, 3, 0);
        x.lay(1, 2, 3);
        x.layer(0);
        x.poke(0, 3, 0x50);
        x.poke(0, 4, 0x51);
        x.poke(0, 3, 0x52);
        x.layer(0);
        x.poke(0, 4, 0x53);
        x.set(0, PART_P, 7);
        Check.evaluate(x, 0, 0, "n+40");
        Check.evaluate(x, 0, 0, "n+");
        Check.feed(x, "n*3+p");
        return x;
    }

    private static void busyIsAsThought() {
        OverlayViewer x = busy();
        int[] kinds = {0, 1, 2, 1, 1, 5, 5, 3, 4, 4, 10, 7, 10, 1};
        int[] faults = {0, 0, 0, 0, 0, 0, 0, 0, 0, 0, 0, 8, 5, 1};
        Check.due("nodes", x.faults(0, 2), kinds.length);
        for (int n = 0; n < kinds.length; n++) {
            Check.due("kind of " + n, x.node(0, n, 0), kinds[n]);
            Check.due("fault of " + n, x.node(0, n, 5), faults[n]);
        }
        Check.due("wrong", x.wrong(), 2);
        Check.due("out", x.out(), 42);
        Check.due("tape", x.count(1), 5);
        Check.due("kept", x.count(7), 5);
        Check.due("the tape", x.evaluate(0, 0), 0);
        Check.due("the tape", x.out(), 13);
    }

    /** What images are asked takes their LAYERS down, so it is done last. */
    private static String imagesOf(OverlayViewer x) {
        StringBuilder all = new StringBuilder();
        for (int im = 0; im < x.count(0); im++) {
            int length = x.length(im);
            all.append('|').append(length);
            for (int p = 0; p < Math.min(16, length); p++) {
                all.append(' ').append(x.at(im, p));
            }
            all.append(" last ").append(x.at(im, length - 1));
            for (int dropped = 0; dropped != OverlayViewer.STATE; dropped = x.drop(im)) {
                all.append(" dropped ").append(dropped);
                for (int k = 0; x.changed(im, k) >= 0; k++) {
                    all.append(" changed ").append(x.changed(im, k));
                }
                for (int undone = x.undo(im); undone > 0; undone = x.undo(im)) {
                    all.append(" undone ").append(undone).append(':').append(x.at(im, 3)).append(' ').append(x.at(im, 4));
                }
                all.append(" then ").append(x.at(im, 3)).append(' ').append(x.at(im, 4));
            }
        }
        return all.toString();
    }

    private static String treesOf(OverlayViewer x) {
        StringBuilder all = new StringBuilder();
        for (int t = 0; t < x.count(4); t++) {
            all.append('|').append(x.faults(t, 0)).append(' ').append(x.faults(t, 1));
            for (int n = 0; n < x.faults(t, 2) && t < 2; n++) {
                all.append(' ').append(Check.node(x, t, n)).append((char) x.letter(t, n, 0, 0));
            }
            all.append(" relay ").append(x.relay(t)).append(' ').append(x.node(t, 0, 1)).append(' ').append(x.node(t, 0, 7));
        }
        for (int s = 0; s < x.count(2); s++) {
            all.append(" size ").append(x.size(s)).append(" uses ").append(x.uses(x.count(2) - 1, s));
        }
        return all.toString();
    }

    private static String tapeOf(OverlayViewer x) {
        int bytes = x.count(1);
        int worked = x.evaluate(0, 0);
        return bytes + " " + worked + " " + x.wrong() + " " + x.out() + " " + x.count(1);
    }

    private static String countsOf(OverlayViewer x) {
        StringBuilder all = new StringBuilder();
        for (int what = 0; what < 8; what++) {
            all.append(x.count(what)).append(' ');
        }
        return all.append(x.out()).toString();
    }

    private static String asked(OverlayViewer x, int what) {
        return what == 0 ? countsOf(x) : what == 1 ? imagesOf(x) : what == 2 ? treesOf(x) : what == 3 ? tapeOf(x) : "wrong " + x.wrong();
    }

    /** The call is refused behind what prepares it; what is done instead of it leaves the same, but maybe for wrong(). */
    private static void refused(String call, long due, Step prepare, Step step, Step instead, boolean wrongToo) {
        for (int what = 0; what < (wrongToo ? 5 : 4); what++) {
            OverlayViewer x = busy();
            OverlayViewer y = busy();
            prepare.on(x);
            prepare.on(y);
            Check.due(call, step.on(x), due);
            instead.on(y);
            Check.due("behind " + call, asked(x, what), asked(y, what));
        }
    }

    private static void refused(String call, long due, Step prepare, Step step) {
        refused(call, due, prepare, step, NOTHING, true);
    }

    private static void refused(String call, long due, Step step) {
        refused(call, due, NOTHING, step);
    }

    /** It reads THE TAPE, which is empty then. */
    private static void refusedText(String call, long due, String text, Step step, boolean wrongToo) {
        Step feed = x -> {
            x.cut(0);
            Check.feed(x, text);
            return 0;
        };
        refused(call + " of " + text, due, feed, step, x -> x.cut(0), wrongToo);
    }

    private static Step times(int n, Step step) {
        return x -> {
            long last = 0;
            for (int i = 0; i < n; i++) {
                last = step.on(x);
            }
            return last;
        };
    }

    private static void images() {
        refused("image()", Check.FULL, times(3, OverlayViewer::image), OverlayViewer::image);
        refused("push(3)", Check.NONE, x -> x.push(3, 1, 1));
        refused("push(-1)", Check.NONE, x -> x.push(-1, 1, 1));
        refused("push(0)", Check.STATE, x -> x.push(0, 1, 1));
        refused("push n 0", Check.RANGE, x -> x.push(1, 1, 0));
        refused("push n 9", Check.RANGE, x -> x.push(1, 1, 9));
        refused("push to 2001", Check.FULL, times(249, x -> x.push(1, 1, 8)), x -> x.push(1, -1, 5));
        refused("at(0, 13)", Check.NONE, x -> x.at(0, 13));
        refused("at(3, 0)", Check.NONE, x -> x.at(3, 0));
        refused("length(3)", Check.NONE, x -> x.length(3));
    }

    private static void layers() {
        refused("layer(3)", Check.NONE, x -> x.layer(3));
        refused("layer(0)", Check.FULL, times(2, x -> x.layer(0)), x -> x.layer(0));
        refused("commit(3)", Check.NONE, x -> x.commit(3));
        refused("commit(1)", Check.STATE, x -> x.commit(1));
        refused("drop(3)", Check.NONE, x -> x.drop(3));
        refused("drop(1)", Check.STATE, x -> x.drop(1));
        refused("undo(3)", Check.NONE, x -> x.undo(3));
        refused("undo(1)", Check.STATE, x -> x.undo(1));
        refused("undo(0)", 0, times(2, x -> x.undo(0)), x -> x.undo(0));
        refused("changed(3, 0)", Check.NONE, x -> x.changed(3, 0));
        refused("changed(1, 0)", Check.NONE, x -> x.changed(1, 0));
        refused("changed(0, 2)", Check.NONE, x -> x.changed(0, 2));
    }

    private static void writes() {
        refused("poke(3, 0)", Check.NONE, x -> x.poke(3, 0, 1));
        refused("poke(0, -1)", Check.NONE, x -> x.poke(0, -1, 1));
        refused("poke(0, 13)", Check.NONE, x -> x.poke(0, 13, 1));
        refused("poke b -1", Check.RANGE, x -> x.poke(0, 0, -1));
        refused("poke b 256", Check.RANGE, x -> x.poke(0, 0, 256));
        refused("poke b 256 without layers", Check.RANGE, x -> x.poke(1, 0, 256));
    }

    private static void tapes() {
        refused("feed n 0", Check.RANGE, x -> x.feed(1, 0));
        refused("feed n 9", Check.RANGE, x -> x.feed(1, 9));
        refused("cut(6)", Check.RANGE, x -> x.cut(6));
        refused("cut(-1)", Check.RANGE, x -> x.cut(-1));
        // by itself: what busy() calls and a full TAPE would be too many calls
        OverlayViewer x = Check.laid("struct s{u1 n;}", 7);
        Check.feed(x, " ".repeat(2990) + "n+1");
        String ahead = countsOf(x);
        Check.due("feed beyond 3000", x.feed(Check.packed("+1000000"), 8), Check.FULL);
        Check.due("behind it", countsOf(x), ahead);
        Check.due("the tape", x.evaluate(0, 0), 0);
        Check.due("the tape", x.out(), 8);
    }

    private static void descriptions() {
        refusedText("describe", -10, "", OverlayViewer::describe, false);
        refusedText("describe", -10, "#", OverlayViewer::describe, false);
        refusedText("describe", -19, "struct q{", OverlayViewer::describe, false);
        refusedText("describe", -43, "enum f{x=1}struct q{u4 a;u1 b;u1 b;}", OverlayViewer::describe, false);
        refusedText("describe", -34, "struct q{u4 a;}struct r{z b;}", OverlayViewer::describe, false);
        refusedText("describe", -22, "struct q{to zz a by u1;}struct r{}", OverlayViewer::describe, false);
        refused("size(4)", Check.NONE, x -> x.size(4));
        refused("size(3)", Check.RANGE, x -> x.size(3));
        refused("uses(4, 0)", Check.NONE, x -> x.uses(4, 0));
        refused("uses(0, -1)", Check.NONE, x -> x.uses(0, -1));
    }

    private static void lays() {
        refused("lay(3, 0, 0)", Check.NONE, x -> x.lay(3, 0, 0));
        refused("lay(0, 4, 0)", Check.NONE, x -> x.lay(0, 4, 0));
        refused("lay(0, 3, -1)", Check.RANGE, x -> x.lay(0, 3, -1));
        refused("lay(0, 3, 14)", Check.RANGE, x -> x.lay(0, 3, 14));
        refused("lay(0, 1, 0)", Check.MANY, x -> x.lay(0, 1, 0));
        refused("relay(2)", Check.NONE, x -> x.relay(2));
        refused("relay(-1)", Check.NONE, x -> x.relay(-1));
    }

    private static void fullTrees() {
        refused("lay the 7th", Check.FULL, times(4, x -> x.lay(0, 3, 0)), x -> x.lay(0, 3, 0));
        refused("lay the 7th", Check.FULL, times(4, x -> x.lay(1, 2, 0)), x -> x.lay(0, 1, 0));
        // a relay that would be MANY: the TREE, and all others, stay
        OverlayViewer[] both = new OverlayViewer[2];
        for (int i = 0; i < 2; i++) {
            OverlayViewer x = new OverlayViewer();
            both[i] = x;
            x.image();
            x.push(0, 3, 1);
            Check.describe(x, "struct e{}struct s{u1 n;e a[n];e b[n];}");
            x.lay(0, 1, 0);
            x.lay(0, 1, 0);
            x.poke(0, 0, 200);
        }
        Check.due("relay", both[0].relay(0), Check.MANY);
        for (int t = 0; t < 2; t++) {
            for (int n = 0; n < 10; n++) {
                Check.due("node " + n + " of " + t, Check.node(both[0], t, n), Check.node(both[1], t, n));
            }
        }
        Check.due("counts", countsOf(both[0]), countsOf(both[1]));
    }

    private static void treeLooks() {
        refused("node(2, 0, 0)", Check.NONE, x -> x.node(2, 0, 0));
        refused("node(0, 14, 0)", Check.NONE, x -> x.node(0, 14, 0));
        refused("node(0, 0, 8)", Check.NONE, x -> x.node(0, 0, 8));
        refused("kid(0, 0, 9)", Check.NONE, x -> x.kid(0, 0, 9));
        refused("value(0, 14)", 0, x -> x.value(0, 14));
        refused("sign(0, 1, 0)", Check.NONE, x -> x.sign(0, N, 0));
        refused("sign(0, 5, 1)", Check.NONE, x -> x.sign(0, TEXT_B, 1));
        refused("letter(0, 0, 2, 0)", Check.NONE, x -> x.letter(0, 0, 2, 0));
        refused("letter(0, 0, 0, 1)", Check.NONE, x -> x.letter(0, 0, 0, 1));
        refused("faults(0, 3)", Check.NONE, x -> x.faults(0, 3));
        refused("faults(2, 0)", Check.NONE, x -> x.faults(2, 0));
    }

    private static void texts() {
        refused("find(2)", Check.NONE, x -> x.find(2));
        refused("evaluate(2, 0)", Check.NONE, x -> x.evaluate(2, 0));
        refused("evaluate(0, 14)", Check.NONE, x -> x.evaluate(0, 14));
        refused("evaluate(0, 1)", Check.KIND, x -> x.evaluate(0, 1));
        refusedText("find", -10, "zz", x -> x.find(0), true);
        refusedText("find", -11, "a #", x -> x.find(0), true);
        refusedText("find", 0, "", x -> x.find(0), true);
        refusedText("evaluate", -12, "n+", x -> x.evaluate(0, 0), false);
        refusedText("evaluate", -10, "zz", x -> x.evaluate(0, 0), false);
        refusedText("evaluate", Check.RANGE, "n/0", x -> x.evaluate(0, 0), false);
        refusedText("evaluate", Check.RANGE, "z", x -> x.evaluate(0, 0), false);
    }

    private static void edits() {
        refused("set(2, 1, 1)", Check.NONE, x -> x.set(2, N, 1));
        refused("set(0, 14, 1)", Check.NONE, x -> x.set(0, 14, 1));
        refused("set(0, 0, 1)", Check.KIND, x -> x.set(0, 0, 1));
        refused("set(0, 2, 1)", Check.KIND, x -> x.set(0, ARRAY, 1));
        refused("set outside", Check.OUTSIDE, x -> x.set(0, OUTSIDE_NODE, 1));
        refused("set 256", Check.RANGE, x -> x.set(0, N, 256));
        refused("set -1", Check.RANGE, x -> x.set(0, BITS, -1));
        refused("set part 16", Check.RANGE, x -> x.set(0, PART_P, 16));
        refused("set pointer 256", Check.RANGE, x -> x.set(0, POINTER, 256));
        refused("put(2, 5)", Check.NONE, x -> x.put(2, TEXT_B, 0, 1));
        refused("put(0, 14)", Check.NONE, x -> x.put(0, 14, 0, 1));
        refused("put(0, 1)", Check.KIND, x -> x.put(0, N, 0, 1));
        refused("put i 1", Check.RANGE, x -> x.put(0, TEXT_B, 1, 1));
        refused("put i -1", Check.RANGE, x -> x.put(0, TEXT_B, -1, 1));
        refused("put b 256", Check.RANGE, x -> x.put(0, TEXT_B, 0, 256));
        refused("put its number", Check.RANGE, x -> x.put(0, TEXT_C, 0, 0));
        refused("put its last", Check.RANGE, x -> x.put(0, TEXT_C, 2, 1));
        refused("fix(2, 10)", Check.NONE, x -> x.fix(2, SUM));
        refused("fix(0, 14)", Check.NONE, x -> x.fix(0, 14));
        refused("fix(0, 1)", Check.KIND, x -> x.fix(0, N));
        refused("fix such as with FAULT 5", Check.RANGE, x -> x.fix(0, FAR_SUM));
        refused("fix with another n", Check.RANGE, x -> x.poke(0, 0, 200), x -> x.fix(0, SUM));
    }

    private static void looks() {
        refused("search width 9", Check.NONE, x -> x.search(0, 1, 9, true, 0));
        refused("search k 99", Check.NONE, x -> x.search(0, 1, 1, true, 99));
        refused("masked odd", Check.NONE, x -> x.masked(0, 0));
        refused("masked(3, 0)", Check.NONE, x -> x.cut(4), x -> x.masked(3, 0));
        refused("masked", Check.NONE, x -> x.cut(4), x -> x.masked(0, 9));
        refused("magic(0, 3, 0)", Check.NONE, x -> x.magic(0, 3, 0));
        refused("magic(1, 2, 2)", Check.NONE, x -> x.magic(1, 2, 2));
        refused("covered(0, 99)", Check.NONE, x -> x.covered(0, 99));
        refused("gap(0, 9, 0)", Check.NONE, x -> x.gap(0, 9, 0));
        refused("gap(0, 0, 2)", Check.NONE, x -> x.gap(0, 0, 2));
        refused("differ(0, 3, 0, 0)", Check.NONE, x -> x.differ(0, 3, 0, 0));
        refused("differ(0, 1, 9, 0)", Check.NONE, x -> x.differ(0, 1, 9, 0));
        refused("hex(0, 1, 0)", Check.NONE, x -> x.hex(0, 1, 0));
        refused("hex(3, 0, 0)", Check.NONE, x -> x.hex(3, 0, 0));
        refused("count(8)", Check.NONE, x -> x.count(8));
        refused("count(-1)", Check.NONE, x -> x.count(-1));
    }
}
