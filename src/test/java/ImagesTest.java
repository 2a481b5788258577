/** Promises 1 to 11. */
public final class ImagesTest {
    public static void main(String[] args) {
        newObject();
        imagesAndPush();
        atAndLength();
        layersShadow();
        commitAndDrop();
        poke();
        undo();
        writesThatAreKept();
        undoBehindCommit();
        changed();
        Check.end();
    }

    private static void newObject() {
        OverlayViewer x = new OverlayViewer();
        for (int what = 0; what < 8; what++) {
            Check.due("new: count(" + what + ")", x.count(what), 0);
        }
        Check.due("new: wrong()", x.wrong(), 0);
        Check.due("new: out()", x.out(), 0);
        Check.due("new: clear()", x.clear(), 0);
        Check.due("new: length(0)", x.length(0), Check.NONE);
        Check.due("new: cut(0)", x.cut(0), 0);
    }

    private static void imagesAndPush() {
        OverlayViewer x = new OverlayViewer();
        for (int im = 0; im < 6; im++) {
            Check.due("image()", x.image(), im);
        }
        Check.due("image() 7th", x.image(), Check.FULL);
        Check.due("count(0)", x.count(0), 6);
        Check.due("push 3 bytes", x.push(0, 0xff010203L, 3), 3);
        Check.due("push 8 bytes", x.push(0, 0x8090a0b0c0d0e0f0L, 8), 11);
        Check.due("bytes", Check.bytes(x, 0), "1 2 3 128 144 160 176 192 208 224 240");
        Check.due("push n 0", x.push(0, 1, 0), Check.RANGE);
        Check.due("push n 9", x.push(0, 1, 9), Check.RANGE);
        Check.due("push im -1", x.push(-1, 1, 0), Check.NONE);
        Check.due("push im 6", x.push(6, 1, 1), Check.NONE);
        x.layer(0);
        Check.due("push with layers", x.push(0, 1, 9), Check.STATE);
        x.drop(0);
        Check.due("push again", x.push(0, 1, 1), 12);
        for (int i = 0; i < 249; i++) {
            x.push(1, 0, 8);
        }
        Check.due("push to 1999", x.push(1, 0, 7), 1999);
        Check.due("push beyond 2000", x.push(1, 0, 2), Check.FULL);
        Check.due("length stays", x.length(1), 1999);
        Check.due("push n 9 of a full one", x.push(1, 0, 9), Check.RANGE);
        Check.due("push to 2000", x.push(1, 7, 1), 2000);
        Check.due("push beyond", x.push(1, 7, 1), Check.FULL);
        Check.due("at the last", x.at(1, 1999), 7);
    }

    private static void atAndLength() {
        OverlayViewer x = new OverlayViewer();
        Check.image(x, 9, 255);
        Check.due("at(0, 1)", x.at(0, 1), 255);
        Check.due("at(0, 2)", x.at(0, 2), Check.NONE);
        Check.due("at(0, -1)", x.at(0, -1), Check.NONE);
        Check.due("at(1, 0)", x.at(1, 0), Check.NONE);
        Check.due("length(0)", x.length(0), 2);
        Check.due("length(1)", x.length(1), Check.NONE);
        Check.due("length(-1)", x.length(-1), Check.NONE);
    }

    private static void layersShadow() {
        OverlayViewer x = new OverlayViewer();
        Check.image(x, 1, 2, 3);
        Check.due("layer(1)", x.layer(1), Check.NONE);
        Check.due("layer 1", x.layer(0), 1);
        x.poke(0, 0, 10);
        Check.due("layer 2", x.layer(0), 2);
        x.poke(0, 1, 20);
        Check.due("layer 3", x.layer(0), 3);
        x.poke(0, 0, 30);
        Check.due("layer 4", x.layer(0), 4);
        Check.due("layer 5", x.layer(0), Check.FULL);
        Check.due("count(6)", x.count(6), 4);
        Check.due("what it has", Check.bytes(x, 0), "30 20 3");
        Check.due("drop an empty one", x.drop(0), 0);
        Check.due("drop", x.drop(0), 1);
        Check.due("what it has then", Check.bytes(x, 0), "10 20 3");
        x.drop(0);
        Check.due("what it has then", Check.bytes(x, 0), "10 2 3");
        x.drop(0);
        Check.due("its own", Check.bytes(x, 0), "1 2 3");
        Check.due("a new layer is empty", x.layer(0), 1);
        Check.due("changed", x.changed(0, 0), Check.NONE);
        Check.due("no writes are kept", x.count(7), 0);
    }

    private static void commitAndDrop() {
        OverlayViewer x = new OverlayViewer();
        Check.image(x, 1, 2, 3);
        Check.due("commit without", x.commit(0), Check.STATE);
        Check.due("drop without", x.drop(0), Check.STATE);
        Check.due("commit none", x.commit(1), Check.NONE);
        Check.due("drop none", x.drop(-1), Check.NONE);
        x.layer(0);
        x.poke(0, 0, 7);
        x.layer(0);
        x.poke(0, 0, 8);
        x.poke(0, 2, 9);
        x.poke(0, 2, 10);
        Check.due("commit on a layer", x.commit(0), 2);
        Check.due("has", Check.bytes(x, 0), "8 2 10");
        Check.due("the layer beneath has them", x.changed(0, 1), 2);
        Check.due("count(6)", x.count(6), 1);
        Check.due("its kept writes stay", x.count(7), 1);
        Check.due("commit on the image", x.commit(0), 2);
        Check.due("own", Check.bytes(x, 0), "8 2 10");
        Check.due("commit again", x.commit(0), Check.STATE);
        x.layer(0);
        x.poke(0, 1, 77);
        Check.due("drop", x.drop(0), 1);
        Check.due("own stay", Check.bytes(x, 0), "8 2 10");
    }

    private static void poke() {
        OverlayViewer x = new OverlayViewer();
        Check.image(x, 1, 2);
        Check.due("poke", x.poke(0, 1, 255), 2);
        Check.due("poke the image itself", x.at(0, 1), 255);
        Check.due("poke 0", x.poke(0, 1, 0), 255);
        Check.due("poke b 256", x.poke(0, 0, 256), Check.RANGE);
        Check.due("poke b -1", x.poke(0, 0, -1), Check.RANGE);
        Check.due("poke place 2", x.poke(0, 2, 256), Check.NONE);
        Check.due("poke place -1", x.poke(0, -1, 1), Check.NONE);
        Check.due("poke no image", x.poke(3, 0, 1), Check.NONE);
        Check.due("no write is kept", x.count(7), 0);
        x.layer(0);
        Check.due("poke in a layer", x.poke(0, 0, 5), 1);
        Check.due("poke again", x.poke(0, 0, 6), 5);
        x.drop(0);
        Check.due("the image is as it was", x.at(0, 0), 1);
    }

    private static void undo() {
        OverlayViewer x = new OverlayViewer();
        Check.image(x, 1, 2);
        Check.due("undo no image", x.undo(1), Check.NONE);
        Check.due("undo without layers", x.undo(0), Check.STATE);
        x.layer(0);
        Check.due("undo nothing", x.undo(0), 0);
        x.poke(0, 0, 5);
        x.poke(0, 0, 5);
        x.poke(0, 0, 6);
        Check.due("kept, also what changed nothing", x.count(7), 3);
        Check.due("undo", x.undo(0), 1);
        Check.due("has", x.at(0, 0), 5);
        Check.due("undo", x.undo(0), 1);
        Check.due("has", x.at(0, 0), 5);
        Check.due("the layer has it", x.changed(0, 0), 0);
        Check.due("undo", x.undo(0), 1);
        Check.due("has its own", x.at(0, 0), 1);
        Check.due("the layer has none", x.changed(0, 0), Check.NONE);
        Check.due("undo nothing more", x.undo(0), 0);
        Check.due("drop counts none", x.drop(0), 0);
    }

    private static void writesThatAreKept() {
        OverlayViewer x = new OverlayViewer();
        Check.image(x, 0);
        x.layer(0);
        for (int i = 1; i <= 25; i++) {
            x.poke(0, 0, i);
        }
        Check.due("20 are kept", x.count(7), 20);
        for (int i = 24; i >= 5; i--) {
            Check.due("undo", x.undo(0), 1);
            Check.due("has", x.at(0, 0), i);
        }
        Check.due("no more", x.undo(0), 0);
        Check.due("the 5th stays", x.at(0, 0), 5);
        x.layer(0);
        x.poke(0, 0, 99);
        Check.due("of all layers", x.count(7), 1);
        x.drop(0);
        Check.due("gone with the layer", x.count(7), 0);
    }

    private static void undoBehindCommit() {
        OverlayViewer x = new OverlayViewer();
        Check.image(x, 1, 2);
        x.layer(0);
        x.poke(0, 0, 3);
        x.layer(0);
        x.poke(0, 0, 4);
        x.poke(0, 1, 5);
        x.commit(0);
        Check.due("undo takes back the lower layer's", x.undo(0), 1);
        Check.due("has", Check.bytes(x, 0), "1 5");
        Check.due("changed", x.changed(0, 0), 1);
        Check.due("drop", x.drop(0), 1);
    }

    private static void changed() {
        OverlayViewer x = new OverlayViewer();
        Check.image(x, 1, 2, 3, 4);
        Check.due("without layers", x.changed(0, 0), Check.NONE);
        x.layer(0);
        x.poke(0, 3, 4);
        x.poke(0, 1, 9);
        Check.due("changed 0", x.changed(0, 0), 1);
        Check.due("changed 1", x.changed(0, 1), 3);
        Check.due("changed 2", x.changed(0, 2), Check.NONE);
        Check.due("changed -1", x.changed(0, -1), Check.NONE);
        Check.due("no image", x.changed(1, 0), Check.NONE);
        x.layer(0);
        Check.due("the uppermost alone", x.changed(0, 0), Check.NONE);
    }
}
