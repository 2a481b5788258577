/** What the tests share: comparing answers, feeding texts and bytes, reading names. */
final class Check {
    static final int NONE = OverlayViewer.NONE, FULL = OverlayViewer.FULL, RANGE = OverlayViewer.RANGE,
            KIND = OverlayViewer.KIND, OUTSIDE = OverlayViewer.OUTSIDE, MANY = OverlayViewer.MANY,
            STATE = OverlayViewer.STATE;

    private static int wrong = 0;
    private static int looked = 0;

    private Check() {
    }

    static void due(String call, long got, long want) {
        looked++;
        if (got != want) {
            wrong++;
            System.out.println(call + " answered " + got + ", due is " + want);
        }
    }

    static void due(String call, String got, String want) {
        looked++;
        if (!got.equals(want)) {
            wrong++;
            System.out.println(call + " answered '" + got + "', due is '" + want + "'");
        }
    }

    /** Every test's main ends with this. */
    static void end() {
        System.out.println(looked + " answers looked at, " + wrong + " are not as due");
        if (wrong != 0 || looked == 0) {
            System.exit(1);
        }
    }

    static OverlayViewer feed(OverlayViewer x, String text) {
        for (int i = 0; i < text.length(); i += 8) {
            String piece = text.substring(i, Math.min(text.length(), i + 8));
            x.feed(packed(piece), piece.length());
        }
        return x;
    }

    static long packed(String piece) {
        long w = 0;
        for (int i = 0; i < piece.length(); i++) {
            w = w << 8 | piece.charAt(i);
        }
        return w;
    }

    static int describe(OverlayViewer x, String text) {
        return feed(x, text).describe();
    }

    static int evaluate(OverlayViewer x, int tree, int n, String text) {
        return feed(x, text).evaluate(tree, n);
    }

    static int find(OverlayViewer x, int tree, String path) {
        return feed(x, path).find(tree);
    }

    /** A new image with these bytes: its number. */
    static int image(OverlayViewer x, int... bytes) {
        int im = x.image();
        for (int b : bytes) {
            x.push(im, b, 1);
        }
        return im;
    }

    /** A new image with n bytes that are all b: its number. */
    static int filled(OverlayViewer x, int n, int b) {
        int im = x.image();
        long w = b * 0x0101010101010101L;
        for (int i = 0; i < n; i += 8) {
            x.push(im, w, Math.min(8, n - i));
        }
        return im;
    }

    /** A new object with one image and one description; the first structure that is laid comes by lay. */
    static OverlayViewer viewer(String text, int... bytes) {
        OverlayViewer x = new OverlayViewer();
        image(x, bytes);
        int structures = describe(x, text);
        if (structures < 0) {
            due("describe " + text, structures, 1);
        }
        return x;
    }

    static String bytes(OverlayViewer x, int im) {
        StringBuilder all = new StringBuilder();
        for (int p = 0; p < x.length(im); p++) {
            all.append(p == 0 ? "" : " ").append(x.at(im, p));
        }
        return all.toString();
    }

    /** The name of a node, or of its pair with which 1. */
    static String name(OverlayViewer x, int tree, int n, int which) {
        StringBuilder all = new StringBuilder();
        for (int i = 0; x.letter(tree, n, which, i) != NONE; i++) {
            all.append((char) x.letter(tree, n, which, i));
        }
        return all.toString();
    }

    /** All of a node in one line: kind, from, to, parent, kids, fault, met, structure, value. */
    static String node(OverlayViewer x, int tree, int n) {
        StringBuilder all = new StringBuilder();
        for (int what = 0; what < 8; what++) {
            all.append(x.node(tree, n, what)).append(' ');
        }
        return all.append(x.value(tree, n)).toString();
    }

    /** The faults of all nodes, in their order. */
    static String faults(OverlayViewer x, int tree) {
        StringBuilder all = new StringBuilder();
        for (int n = 0; n < x.faults(tree, 2); n++) {
            all.append(n == 0 ? "" : " ").append(x.node(tree, n, 5));
        }
        return all.toString();
    }
}
