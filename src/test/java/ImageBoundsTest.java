/** Part 1 of the document and promises 1 to 11: each sentence that names a bound. */
public final class ImageBoundsTest {
    /** NODES of this one: 0 itself, 1 a, 2 t, 3 c, 4 b, 5 p, 6 q; each KIND of edit has one that it can write. */
    private static final String EDITABLE = "struct s{u2b a;text t[2];sum add u1 c of 0,4;bits u1 b{p:4,q:4};}";

    public static void main(String[] args) {
        newObject();
        sixImages();
        twoThousandBytes();
        lastBytesThatFit();
        bytes();
        fourLayers();
        places();
        uppermostByte();
        zeroIsAByte();
        writesWithoutLayers();
        writesGoToTheUppermost();
        twentyWrites();
        twentyWiderWrites();
        twentyOfEachLayer();
        writesThatChangeNothing();
        byteOrNoneIsTakenBack();
        keptNoMore();
        pushWidths();
        pushRefusals();
        layerRefusals();
        commitBounds();
        commitLeavesKeptWrites();
        dropBounds();
        layersOfAFullImage();
        pokeBounds();
        undoBounds();
        changedBounds();
        Check.end();
    }

    private static OverlayViewer withImage(int... bytes) {
        OverlayViewer x = new OverlayViewer();
        Check.image(x, bytes);
        return x;
    }

    private static OverlayViewer editable() {
        OverlayViewer x = Check.viewer(EDITABLE, 1, 2, 3, 4, 0, 0x5c);
        x.lay(0, 0, 0);
        return x;
    }

    private static void editAll(OverlayViewer x) {
        Check.due("set a", x.set(0, 1, 0x0506), 0);
        Check.due("put t", x.put(0, 2, 1, 9), 0);
        Check.due("fix c", x.fix(0, 3), 0);
        Check.due("set p", x.set(0, 5, 10), 0);
    }

    private static void newObject() {
        Check.says("OverlayViewer(): No IMAGES, an empty TAPE, no structures, no TREES.");
        OverlayViewer x = new OverlayViewer();
        for (int what = 0; what < 8; what++) {
            Check.due("count(" + what + ")", x.count(what), 0);
        }
        Check.due("length(0)", x.length(0), Check.NONE);
        Check.due("cut(1)", x.cut(1), Check.RANGE);
        Check.due("masked(0, 0)", x.masked(0, 0), Check.NONE);
        Check.due("size(0)", x.size(0), Check.NONE);
        Check.due("relay(0)", x.relay(0), Check.NONE);
        Check.due("clear()", x.clear(), 0);
        Check.due("wrong()", x.wrong(), 0);
        Check.due("out()", x.out(), 0);
        Check.due("describe()", x.describe(), -10);
    }

    private static void sixImages() {
        Check.says("IMAGES are numbered from 0 on, 6 at most; image(): One IMAGE more, of LENGTH 0: its number. FULL.");
        OverlayViewer x = new OverlayViewer();
        for (int im = 0; im < 6; im++) {
            Check.due("length(" + im + ") ahead", x.length(im), Check.NONE);
            Check.due("image() " + im, x.image(), im);
            Check.due("length(" + im + ")", x.length(im), 0);
        }
        Check.due("the 7th", x.image(), Check.FULL);
        Check.due("the 7th once more", x.image(), Check.FULL);
        Check.due("count(0)", x.count(0), 6);
        Check.due("length(6)", x.length(6), Check.NONE);
        Check.due("length(-1)", x.length(-1), Check.NONE);
        for (int im : Check.FAR) {
            Check.due("length(" + im + ")", x.length(im), Check.NONE);
            Check.due("at(" + im + ", 0)", x.at(im, 0), Check.NONE);
        }
        Check.due("push to the 6th", x.push(5, 7, 1), 1);
        for (int im = 0; im < 5; im++) {
            Check.due("the others stay", x.length(im), 0);
        }
    }

    private static void twoThousandBytes() {
        Check.says("each is a row of at most 2000 BYTES");
        OverlayViewer x = new OverlayViewer();
        Check.filled(x, 1992, 1);
        Check.due("push to 2000", x.push(0, 0x0a0b0c0d0e0f1011L, 8), 2000);
        for (int n = 1; n <= 8; n++) {
            Check.due("push " + n + " more", x.push(0, 2, n), Check.FULL);
        }
        Check.due("length", x.length(0), 2000);
        Check.due("at 1992", x.at(0, 1992), 10);
        Check.due("at 1999", x.at(0, 1999), 17);
        Check.due("at 2000", x.at(0, 2000), Check.NONE);
        Check.due("poke 1999", x.poke(0, 1999, 3), 17);
        Check.due("poke 2000", x.poke(0, 2000, 3), Check.NONE);
    }

    private static void lastBytesThatFit() {
        Check.says("push: FULL (no room; it changes nothing)");
        OverlayViewer x = new OverlayViewer();
        Check.filled(x, 1993, 1);
        Check.due("8 do not fit", x.push(0, -1, 8), Check.FULL);
        Check.due("length", x.length(0), 1993);
        Check.due("at 1993", x.at(0, 1993), Check.NONE);
        Check.due("7 do", x.push(0, 0x01020304050607L, 7), 2000);
        Check.due("at 1993", x.at(0, 1993), 1);
        Check.due("at 1999", x.at(0, 1999), 7);
    }

    private static void bytes() {
        Check.says("BYTES (0 .. 255)");
        OverlayViewer x = withImage();
        x.push(0, 0x00ff807fL, 4);
        x.push(0, -1, 1);
        x.push(0, 256, 1);
        x.push(0, Long.MIN_VALUE, 8);
        Check.due("bytes", Check.bytes(x, 0), "0 255 128 127 255 0 128 0 0 0 0 0 0 0");
    }

    private static void fourLayers() {
        Check.says("An IMAGE has 0 to 4 LAYERS (none at first); layer(): One LAYER more: how many. FULL.");
        OverlayViewer x = withImage(1);
        Check.image(x, 2);
        Check.due("none at first", x.count(6), 0);
        for (int l = 1; l <= 4; l++) {
            Check.due("layer", x.layer(0), l);
            Check.due("count(6)", x.count(6), l);
        }
        Check.due("the 5th", x.layer(0), Check.FULL);
        Check.due("the 5th once more", x.layer(0), Check.FULL);
        Check.due("count(6)", x.count(6), 4);
        x.drop(0);
        Check.due("a 4th again", x.layer(0), 4);
        x.commit(0);
        Check.due("a 4th again", x.layer(0), 4);
        Check.due("another image has its own", x.layer(1), 1);
        Check.due("count(6)", x.count(6), 5);
    }

    private static void places() {
        Check.says("PLACES (0 .. LENGTH - 1); at: NONE (none such, either); poke: NONE (the place, too)");
        OverlayViewer x = withImage();
        Check.due("at(0, 0) of an empty one", x.at(0, 0), Check.NONE);
        Check.due("poke(0, 0) of an empty one", x.poke(0, 0, 1), Check.NONE);
        x.push(0, 0x0506, 2);
        Check.due("at(0, -1)", x.at(0, -1), Check.NONE);
        Check.due("at(0, 0)", x.at(0, 0), 5);
        Check.due("at(0, 1)", x.at(0, 1), 6);
        Check.due("at(0, 2)", x.at(0, 2), Check.NONE);
        Check.due("at(1, 0)", x.at(1, 0), Check.NONE);
        Check.due("at(-1, 0)", x.at(-1, 0), Check.NONE);
        for (int place : Check.FAR) {
            Check.due("at(0, " + place + ")", x.at(0, place), Check.NONE);
            Check.due("poke(0, " + place + ")", x.poke(0, place, 1), Check.NONE);
        }
        Check.due("poke(0, -1)", x.poke(0, -1, 1), Check.NONE);
        Check.due("poke(0, 2)", x.poke(0, 2, 1), Check.NONE);
        Check.due("poke(0, 0)", x.poke(0, 0, 7), 5);
        Check.due("poke(0, 1)", x.poke(0, 1, 8), 6);
        Check.due("bytes", Check.bytes(x, 0), "7 8");
    }

    private static void uppermostByte() {
        Check.says("What an IMAGE HAS at a PLACE is the BYTE of the uppermost LAYER that has one there, else its own.");
        OverlayViewer x = withImage(1, 2, 3, 4, 5);
        for (int l = 1; l <= 4; l++) {
            x.layer(0);
            // layer l has BYTES for the places l - 1 to 3
            for (int p = l - 1; p < 4; p++) {
                Check.due("poke", x.poke(0, p, 10 * l + p), l == 1 ? p + 1 : 10 * (l - 1) + p);
            }
        }
        Check.due("4 layers", Check.bytes(x, 0), "10 21 32 43 5");
        x.drop(0);
        Check.due("3 layers", Check.bytes(x, 0), "10 21 32 33 5");
        x.drop(0);
        Check.due("2 layers", Check.bytes(x, 0), "10 21 22 23 5");
        x.drop(0);
        Check.due("1 layer", Check.bytes(x, 0), "10 11 12 13 5");
        x.drop(0);
        Check.due("its own", Check.bytes(x, 0), "1 2 3 4 5");
    }

    private static void zeroIsAByte() {
        Check.says("a LAYER has for some PLACES a BYTE (0 .. 255)");
        OverlayViewer x = withImage(9, 9);
        x.layer(0);
        Check.due("poke 0", x.poke(0, 0, 0), 9);
        Check.due("poke 255", x.poke(0, 1, 255), 9);
        Check.due("has", Check.bytes(x, 0), "0 255");
        Check.due("changed", x.changed(0, 0), 0);
        x.layer(0);
        x.poke(0, 0, 7);
        x.undo(0);
        Check.due("the 0 beneath", x.at(0, 0), 0);
        x.drop(0);
        Check.due("commit", x.commit(0), 2);
        Check.due("its own", Check.bytes(x, 0), "0 255");
    }

    private static void writesWithoutLayers() {
        Check.says("TO WRITE BYTES at PLACES: (without LAYERS the IMAGE itself gets them)");
        OverlayViewer x = editable();
        editAll(x);
        Check.due("poke", x.poke(0, 0, 7), 5);
        Check.due("no write is kept", x.count(7), 0);
        Check.due("bytes", Check.bytes(x, 0), "7 6 3 9 23 90");
        x.layer(0);
        Check.due("no layer has them", x.changed(0, 0), Check.NONE);
        x.poke(0, 0, 1);
        x.poke(0, 4, 1);
        x.poke(0, 5, 1);
        x.drop(0);
        Check.due("they are its own", Check.bytes(x, 0), "7 6 3 9 23 90");
    }

    private static void writesGoToTheUppermost() {
        Check.says("TO WRITE BYTES at PLACES: the uppermost LAYER gets them");
        OverlayViewer x = editable();
        x.layer(0);
        x.layer(0);
        editAll(x);
        Check.due("kept", x.count(7), 4);
        Check.due("has", Check.bytes(x, 0), "5 6 3 9 23 90");
        int[] changed = {0, 1, 3, 4, 5, Check.NONE};
        for (int k = 0; k < changed.length; k++) {
            Check.due("changed " + k, x.changed(0, k), changed[k]);
        }
        int[] widths = {1, 1, 1, 2, 0};
        String[] bytes = {"5 6 3 9 23 92", "5 6 3 9 0 92", "5 6 3 4 0 92", "1 2 3 4 0 92", "1 2 3 4 0 92"};
        for (int i = 0; i < widths.length; i++) {
            Check.due("undo", x.undo(0), widths[i]);
            Check.due("has then", Check.bytes(x, 0), bytes[i]);
        }
        editAll(x);
        Check.due("drop", x.drop(0), 5);
        Check.due("the lower one has none", x.changed(0, 0), Check.NONE);
        Check.due("has", Check.bytes(x, 0), "1 2 3 4 0 92");
    }

    private static void twentyWrites() {
        Check.says("Of each LAYER its latest 20 WRITES are kept");
        for (int writes = 19; writes <= 22; writes++) {
            OverlayViewer x = withImage(new int[30]);
            x.layer(0);
            for (int p = 0; p < writes; p++) {
                x.poke(0, p, 50 + p);
                Check.due("kept", x.count(7), Math.min(20, p + 1));
            }
            int kept = Math.min(20, writes);
            for (int i = 1; i <= kept; i++) {
                Check.due("undo " + i + " of " + writes, x.undo(0), 1);
                Check.due("has its own again", x.at(0, writes - i), 0);
                Check.due("the one ahead stays", x.at(0, Math.max(0, writes - i - 1)), writes == i ? 0 : 49 + writes - i);
            }
            Check.due("none is kept of " + writes, x.undo(0), 0);
            Check.due("the first ones stay", x.drop(0), writes - kept);
        }
    }

    private static void twentyWiderWrites() {
        Check.says("its latest 20 WRITES are kept ... the LAYER gets at its PLACES what it had there ahead of it");
        OverlayViewer x = Check.laid("struct s{u3b a;u1 b;u8 c;}", new int[12]);
        x.layer(0);
        // widths 3, 1, 8 in turn; the first 2 of 22 are kept no more
        for (int i = 0; i < 22; i++) {
            x.set(0, 1 + i % 3, i + 1);
        }
        Check.due("kept", x.count(7), 20);
        for (int i = 21; i >= 2; i--) {
            Check.due("undo", x.undo(0), i % 3 == 0 ? 3 : i % 3 == 1 ? 1 : 8);
            Check.due("value then", x.value(0, 1 + i % 3), i - 2);
        }
        Check.due("none is kept", x.undo(0), 0);
        Check.due("the first two stay", Check.bytes(x, 0), "0 0 1 2 0 0 0 0 0 0 0 0");
        Check.due("drop", x.drop(0), 4);
    }

    private static void twentyOfEachLayer() {
        Check.says("Of each LAYER its latest 20 WRITES are kept; count 7: kept WRITES of all these");
        OverlayViewer x = withImage(0, 0);
        Check.image(x, 0);
        for (int l = 1; l <= 4; l++) {
            x.layer(0);
            for (int i = 0; i < 21; i++) {
                x.poke(0, 0, i);
            }
            Check.due("kept", x.count(7), 20 * l);
        }
        x.layer(1);
        x.poke(1, 0, 1);
        Check.due("kept of two images", x.count(7), 81);
        x.drop(0);
        Check.due("those of a layer are gone with it", x.count(7), 61);
        x.commit(0);
        Check.due("also by commit", x.count(7), 41);
        for (int i = 0; i < 20; i++) {
            Check.due("undo of the layer beneath", x.undo(0), 1);
        }
        Check.due("no more of it", x.undo(0), 0);
        Check.due("the lowest one's stay", x.count(7), 21);
        x.drop(0);
        Check.due("undo of the lowest", x.undo(0), 1);
    }

    private static void writesThatChangeNothing() {
        Check.says("one for each call that WRITES, also if nothing becomes another BYTE by it");
        OverlayViewer x = editable();
        x.fix(0, 3);
        x.layer(0);
        x.poke(0, 0, 1);
        x.set(0, 1, 0x0102);
        x.put(0, 2, 0, 3);
        x.fix(0, 3);
        x.set(0, 6, 5);
        Check.due("kept", x.count(7), 5);
        Check.due("has", Check.bytes(x, 0), "1 2 3 4 10 92");
        Check.due("the layer has them", x.changed(0, 4), 5);
        int[] widths = {1, 1, 1, 2, 1, 0};
        for (int width : widths) {
            Check.due("undo", x.undo(0), width);
        }
        Check.due("it has none then", x.changed(0, 0), Check.NONE);
    }

    private static void byteOrNoneIsTakenBack() {
        Check.says("TO TAKE BACK: the LAYER gets at its PLACES what it had there ahead of it, a BYTE or none");
        OverlayViewer x = Check.laid("struct s{u3b a;}", 1, 2, 3);
        x.layer(0);
        x.poke(0, 0, 77);
        x.layer(0);
        x.poke(0, 1, 5);
        x.set(0, 1, 0x0a0b0c);
        Check.due("has", Check.bytes(x, 0), "10 11 12");
        Check.due("undo", x.undo(0), 3);
        Check.due("what is beneath shows", Check.bytes(x, 0), "77 5 3");
        Check.due("a byte", x.changed(0, 0), 1);
        Check.due("and none", x.changed(0, 1), Check.NONE);
        Check.due("undo", x.undo(0), 1);
        Check.due("none", x.changed(0, 0), Check.NONE);
        Check.due("has", Check.bytes(x, 0), "77 2 3");
        Check.due("the lower layer's is not taken back", x.undo(0), 0);
        Check.due("drop", x.drop(0), 0);
        Check.due("undo", x.undo(0), 1);
        Check.due("has", Check.bytes(x, 0), "1 2 3");
    }

    private static void keptNoMore() {
        Check.says("that WRITE is kept no more");
        OverlayViewer x = withImage(0);
        x.layer(0);
        for (int i = 1; i <= 20; i++) {
            x.poke(0, 0, i);
        }
        x.undo(0);
        Check.due("19 are kept", x.count(7), 19);
        x.poke(0, 0, 30);
        Check.due("20 are kept", x.count(7), 20);
        x.poke(0, 0, 31);
        Check.due("20 are kept", x.count(7), 20);
        Check.due("undo", x.undo(0), 1);
        Check.due("has", x.at(0, 0), 30);
        Check.due("undo", x.undo(0), 1);
        Check.due("has", x.at(0, 0), 19);
        for (int i = 18; i >= 1; i--) {
            Check.due("undo", x.undo(0), 1);
            Check.due("has", x.at(0, 0), i);
        }
        Check.due("none", x.undo(0), 0);
        Check.due("has", x.at(0, 0), 1);
        Check.due("count(7)", x.count(7), 0);
    }

    private static void pushWidths() {
        Check.says("push: The n lowest bytes of w, the highest first, come behind an IMAGE's: its LENGTH.");
        for (int n = 1; n <= 8; n++) {
            OverlayViewer x = withImage(99);
            Check.due("push " + n, x.push(0, 0xf1f2f3f4f5f6f7f8L, n), 1 + n);
            StringBuilder due = new StringBuilder("99");
            for (int i = 9 - n; i <= 8; i++) {
                due.append(' ').append(0xf0 + i);
            }
            Check.due("bytes of " + n, Check.bytes(x, 0), due.toString());
        }
    }

    private static void pushRefusals() {
        Check.says("push: NONE; STATE: it has LAYERS; RANGE: n is not 1 .. 8; FULL. (of several the first one)");
        OverlayViewer x = new OverlayViewer();
        Check.filled(x, 2000, 1);
        for (int n : new int[] {0, 9, -1, Integer.MIN_VALUE, Integer.MAX_VALUE}) {
            Check.due("RANGE ahead of FULL, n " + n, x.push(0, 1, n), Check.RANGE);
            Check.due("NONE ahead of RANGE, n " + n, x.push(1, 1, n), Check.NONE);
            Check.due("NONE ahead of RANGE, n " + n, x.push(-1, 1, n), Check.NONE);
        }
        Check.due("FULL", x.push(0, 1, 1), Check.FULL);
        x.layer(0);
        Check.due("STATE ahead of FULL", x.push(0, 1, 1), Check.STATE);
        Check.due("STATE ahead of RANGE", x.push(0, 1, 9), Check.STATE);
        Check.due("STATE ahead of RANGE", x.push(0, 1, 0), Check.STATE);
        x.drop(0);
        Check.due("without LAYERS again", x.push(0, 1, 1), Check.FULL);
        OverlayViewer y = withImage(1);
        y.layer(0);
        Check.due("STATE", y.push(0, 1, 1), Check.STATE);
        y.commit(0);
        Check.due("without LAYERS again", y.push(0, 1, 1), 2);
    }

    private static void layerRefusals() {
        Check.says("layer: NONE; FULL.");
        OverlayViewer x = withImage();
        Check.due("layer(1)", x.layer(1), Check.NONE);
        Check.due("layer(-1)", x.layer(-1), Check.NONE);
        for (int im : Check.FAR) {
            Check.due("layer(" + im + ")", x.layer(im), Check.NONE);
        }
        Check.due("layer upon an empty image", x.layer(0), 1);
        Check.due("no place to write", x.poke(0, 0, 1), Check.NONE);
        Check.due("commit of nothing", x.commit(0), 0);
        Check.due("length", x.length(0), 0);
    }

    private static void commitBounds() {
        Check.says("commit: The uppermost LAYER is gone, its BYTES are those of what is beneath (or the IMAGE): how many "
                + "it had. NONE; STATE: without LAYERS.");
        OverlayViewer x = withImage(1, 2, 3, 4);
        Check.due("without layers", x.commit(0), Check.STATE);
        Check.due("commit(1)", x.commit(1), Check.NONE);
        Check.due("commit(-1)", x.commit(-1), Check.NONE);
        x.layer(0);
        Check.due("of none", x.commit(0), 0);
        Check.due("without layers", x.commit(0), Check.STATE);
        x.layer(0);
        x.poke(0, 0, 10);
        x.poke(0, 1, 11);
        x.layer(0);
        x.poke(0, 1, 21);
        x.poke(0, 3, 23);
        Check.due("of two", x.commit(0), 2);
        Check.due("layers", x.count(6), 1);
        Check.due("has", Check.bytes(x, 0), "10 21 3 23");
        Check.due("the lower has three", x.changed(0, 2), 3);
        Check.due("and no more", x.changed(0, 3), Check.NONE);
        Check.due("of three, on the image", x.commit(0), 3);
        Check.due("no layers", x.count(6), 0);
        Check.due("has", Check.bytes(x, 0), "10 21 3 23");
        x.layer(0);
        x.poke(0, 0, 99);
        x.poke(0, 3, 99);
        Check.due("drop", x.drop(0), 2);
        Check.due("they are its own, the first and the last too", Check.bytes(x, 0), "10 21 3 23");
    }

    private static void commitLeavesKeptWrites() {
        Check.says("commit: (a LAYER, whose kept WRITES stay as they are)");
        OverlayViewer x = withImage(1, 2, 3);
        x.layer(0);
        x.poke(0, 0, 10);
        x.poke(0, 0, 11);
        x.layer(0);
        x.poke(0, 0, 20);
        x.poke(0, 1, 21);
        x.poke(0, 1, 22);
        Check.due("kept", x.count(7), 5);
        x.commit(0);
        Check.due("kept then", x.count(7), 2);
        Check.due("undo", x.undo(0), 1);
        Check.due("what it had ahead of the write", Check.bytes(x, 0), "10 22 3");
        Check.due("undo", x.undo(0), 1);
        Check.due("none", Check.bytes(x, 0), "1 22 3");
        Check.due("undo no more", x.undo(0), 0);
        Check.due("what came by commit stays", x.changed(0, 0), 1);
        Check.due("drop", x.drop(0), 1);
        Check.due("own", Check.bytes(x, 0), "1 2 3");
    }

    private static void dropBounds() {
        Check.says("drop: The uppermost LAYER is gone: how many BYTES it had. NONE; STATE.");
        OverlayViewer x = withImage(1, 2, 3);
        Check.due("without layers", x.drop(0), Check.STATE);
        Check.due("drop(1)", x.drop(1), Check.NONE);
        Check.due("drop(-1)", x.drop(-1), Check.NONE);
        x.layer(0);
        Check.due("of none", x.drop(0), 0);
        Check.due("without layers", x.drop(0), Check.STATE);
        x.layer(0);
        x.poke(0, 0, 10);
        x.layer(0);
        x.poke(0, 0, 20);
        x.poke(0, 0, 21);
        x.poke(0, 2, 22);
        Check.due("a place counts once", x.drop(0), 2);
        Check.due("has", Check.bytes(x, 0), "10 2 3");
        Check.due("layers", x.count(6), 1);
        Check.due("kept", x.count(7), 1);
        x.layer(0);
        Check.due("a new one has none of the old one's", x.changed(0, 0), Check.NONE);
        Check.due("nor its writes", x.undo(0), 0);
        Check.due("has", Check.bytes(x, 0), "10 2 3");
    }

    private static void layersOfAFullImage() {
        Check.says("PLACES (0 .. LENGTH - 1), of 2000 BYTES; commit, drop: how many it had");
        OverlayViewer x = new OverlayViewer();
        Check.filled(x, 2000, 5);
        for (int layers = 0; layers < 2; layers++) {
            x.layer(0);
            x.poke(0, 0, 6 + layers);
            x.poke(0, 1999, 8 + layers);
        }
        Check.due("commit on a layer", x.commit(0), 2);
        Check.due("the first", x.at(0, 0), 7);
        Check.due("the last", x.at(0, 1999), 9);
        Check.due("commit on the image", x.commit(0), 2);
        x.layer(0);
        x.poke(0, 0, 1);
        x.poke(0, 1999, 1);
        Check.due("drop", x.drop(0), 2);
        Check.due("the first", x.at(0, 0), 7);
        Check.due("the last", x.at(0, 1999), 9);
    }

    private static void pokeBounds() {
        Check.says("poke: A BYTE is WRITTEN: what the IMAGE HAD there. NONE (the place, too); RANGE: b is not 0 .. 255.");
        OverlayViewer x = withImage(7);
        for (int layers = 0; layers < 2; layers++) {
            Check.due("0", x.poke(0, 0, 0), layers == 0 ? 7 : 255);
            Check.due("255", x.poke(0, 0, 255), 0);
            Check.due("-1", x.poke(0, 0, -1), Check.RANGE);
            Check.due("256", x.poke(0, 0, 256), Check.RANGE);
            for (int b : Check.FAR) {
                Check.due("b " + b, x.poke(0, 0, b), Check.RANGE);
                Check.due("NONE ahead of RANGE", x.poke(0, 1, b), Check.NONE);
                Check.due("NONE ahead of RANGE", x.poke(1, 0, b), Check.NONE);
            }
            Check.due("it stays", x.at(0, 0), 255);
            x.layer(0);
        }
        Check.due("a refusal is no write", x.count(7), 2);
    }

    private static void undoBounds() {
        Check.says("undo: how many PLACES it had; 0: none is kept. NONE; STATE.");
        OverlayViewer x = withImage(7);
        Check.due("undo(1)", x.undo(1), Check.NONE);
        Check.due("undo(-1)", x.undo(-1), Check.NONE);
        Check.due("without layers", x.undo(0), Check.STATE);
        x.poke(0, 0, 8);
        Check.due("the image's own is not kept", x.undo(0), Check.STATE);
        x.layer(0);
        Check.due("none is kept", x.undo(0), 0);
        x.poke(0, 0, 9);
        Check.due("one", x.undo(0), 1);
        Check.due("none is kept", x.undo(0), 0);
        Check.due("has", x.at(0, 0), 8);
        OverlayViewer y = Check.laid("struct s{u1 a;u2 b;u3 c;u4 d;u5 e;u6 f;u7 g;u8 h;}", new int[36]);
        y.layer(0);
        for (int n = 1; n <= 8; n++) {
            y.set(0, n, 1);
            Check.due("places of u" + n, y.undo(0), n);
        }
    }

    private static void changedBounds() {
        Check.says("changed: The k-th PLACE, rising, from 0 on, for which the uppermost LAYER has a BYTE. NONE (also "
                + "without LAYERS).");
        OverlayViewer x = new OverlayViewer();
        Check.filled(x, 2000, 5);
        Check.due("without layers", x.changed(0, 0), Check.NONE);
        Check.due("changed(1, 0)", x.changed(1, 0), Check.NONE);
        Check.due("changed(-1, 0)", x.changed(-1, 0), Check.NONE);
        x.layer(0);
        Check.due("of none", x.changed(0, 0), Check.NONE);
        x.poke(0, 1999, 5);
        Check.due("the last place", x.changed(0, 0), 1999);
        x.poke(0, 0, 5);
        x.poke(0, 1000, 5);
        Check.due("k 0", x.changed(0, 0), 0);
        Check.due("k 1", x.changed(0, 1), 1000);
        Check.due("k 2", x.changed(0, 2), 1999);
        Check.due("k 3", x.changed(0, 3), Check.NONE);
        Check.due("k -1", x.changed(0, -1), Check.NONE);
        for (int k : Check.FAR) {
            Check.due("k " + k, x.changed(0, k), Check.NONE);
        }
        x.layer(0);
        Check.due("the uppermost alone", x.changed(0, 0), Check.NONE);
    }
}
