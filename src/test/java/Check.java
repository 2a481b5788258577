/** What the tests share: comparing answers, feeding texts and bytes, laying, reading names. */
final class Check {
    static final int NONE = OverlayViewer.NONE, FULL = OverlayViewer.FULL, RANGE = OverlayViewer.RANGE,
            KIND = OverlayViewer.KIND, OUTSIDE = OverlayViewer.OUTSIDE, MANY = OverlayViewer.MANY,
            STATE = OverlayViewer.STATE;

    /** Numbers that are out of all bounds but those of a long's or an int's own. */
    static final int[] FAR = {Integer.MIN_VALUE, Integer.MIN_VALUE + 1, Integer.MAX_VALUE - 1, Integer.MAX_VALUE};

    private static int wrong = 0;
    private static int looked = 0;
    private static String sentence = "";

    private Check() {
    }

    /** The sentence of the document that the answers from here on are about; it is told with one that is wrong. */
    static void says(String words) {
        sentence = "\n    the document: " + words;
    }

    static void due(String call, long got, long want) {
        looked++;
        if (got != want) {
            wrong++;
            System.out.println(shortened(call) + " answered " + got + ", due is " + want + sentence);
        }
    }

    static void due(String call, String got, String want) {
        looked++;
        if (!got.equals(want)) {
            wrong++;
            System.out.println(shortened(call) + " answered '" + got + "', due is '" + want + "'" + sentence);
        }
    }

    /** Some texts are as long as THE TAPE. */
    private static String shortened(String call) {
        return call.length() <= 300 ? call : call.substring(0, 200) + " .. " + call.substring(call.length() - 90);
    }

    /** Every test's main ends with this. */
    static void end() {
        System.out.println(looked + " answers looked at, " + wrong + " are not as due");
        if (wrong != 0 || looked == 0) {
            System.exit(1);
        }
    }

    static OverlayViewer feed(OverlayViewer x, String text) {
        for (int i = 0; i < text.length(); i += 8) {
            String piece = text.substring(i, Math.min(text.length(), i + 8));
            x.feed(packed(piece), piece.length());
        }
        return x;
    }

    static long packed(String piece) {
        long w = 0;
        for (int i = 0; i < piece.length(); i++) {
            w = w << 8 | piece.charAt(i);
        }
        return w;
    }

    static int describe(OverlayViewer x, String text) {
        return feed(x, text).describe();
    }

    static int evaluate(OverlayViewer x, int tree, int n, String text) {
        return feed(x, text).evaluate(tree, n);
    }

    static int find(OverlayViewer x, int tree, String path) {
        return feed(x, path).find(tree);
    }

    /** A new image with these bytes: its number. */
    static int image(OverlayViewer x, int... bytes) {
        int im = x.image();
        for (int b : bytes) {
            x.push(im, b, 1);
        }
        return im;
    }

    /** A new image with n bytes that are all b: its number. */
    static int filled(OverlayViewer x, int n, int b) {
        int im = x.image();
        long w = b * 0x0101010101010101L;
        for (int i = 0; i < n; i += 8) {
            x.push(im, w, Math.min(8, n - i));
        }
        return im;
    }

    /** A new object with one image and one description; the first structure that is laid comes by lay. */
    static OverlayViewer viewer(String text, int... bytes) {
        OverlayViewer x = new OverlayViewer();
        image(x, bytes);
        int structures = describe(x, text);
        if (structures < 0) {
            due("describe " + text, structures, 1);
        }
        return x;
    }

    /** As viewer, with the last structure laid at PLACE 0 as TREE 0. */
    static OverlayViewer laid(String text, int... bytes) {
        OverlayViewer x = viewer(text, bytes);
        due("lay " + text, x.lay(0, x.count(2) - 1, 0), 0);
        return x;
    }

    /** All NODES of TREE 0, each as 'node' tells it. */
    static void nodes(OverlayViewer x, String... due) {
        due("how many nodes", x.faults(0, 2), due.length);
        for (int n = 0; n < due.length; n++) {
            due("node " + n, node(x, 0, n), due[n]);
        }
    }

    /** What an expr gives at NODE 0 of TREE 0; far below 0 with a FAULT or if it FAILS. */
    static long worked(OverlayViewer x, String text) {
        int answer = evaluate(x, 0, 0, text);
        return answer == 0 ? x.out() : -1000 + answer;
    }

    /** The text has a FAULT: its TOKEN begins at the mark ^, what is ahead of that is fine. */
    static void fault(int number, String text) {
        OverlayViewer x = new OverlayViewer();
        due(text, describe(x, text.replace("^", "")), -10 - text.indexOf('^'));
        due("wrong of " + text, x.wrong(), number);
        due("the tape behind " + text, x.count(1), 0);
    }

    /** The text has no FAULT, and so many structures. */
    static void good(int structures, String text) {
        OverlayViewer x = new OverlayViewer();
        due(text, describe(x, text), structures);
        due("wrong of " + text, x.wrong(), 0);
        due("count(2) of " + text, x.count(2), Math.max(0, structures));
    }

    /** A piece so many times, with its number in the place of #. */
    static String times(int n, String piece) {
        StringBuilder all = new StringBuilder();
        for (int i = 0; i < n; i++) {
            all.append(piece.replace("#", Integer.toString(i)));
        }
        return all.toString();
    }

    static String bytes(OverlayViewer x, int im) {
        StringBuilder all = new StringBuilder();
        for (int p = 0; p < x.length(im); p++) {
            all.append(p == 0 ? "" : " ").append(x.at(im, p));
        }
        return all.toString();
    }

    /** The name of a node, or of its pair with which 1. */
    static String name(OverlayViewer x, int tree, int n, int which) {
        StringBuilder all = new StringBuilder();
        for (int i = 0; x.letter(tree, n, which, i) != NONE; i++) {
            all.append((char) x.letter(tree, n, which, i));
        }
        return all.toString();
    }

    /** All of a node in one line: kind, from, to, parent, kids, fault, met, structure, value. */
    static String node(OverlayViewer x, int tree, int n) {
        StringBuilder all = new StringBuilder();
        for (int what = 0; what < 8; what++) {
            all.append(x.node(tree, n, what)).append(' ');
        }
        return all.append(x.value(tree, n)).toString();
    }

    /** The faults of all nodes, in their order. */
    static String faults(OverlayViewer x, int tree) {
        StringBuilder all = new StringBuilder();
        for (int n = 0; n < x.faults(tree, 2); n++) {
            all.append(n == 0 ? "" : " ").append(x.node(tree, n, 5));
        }
        return all.toString();
    }
}
