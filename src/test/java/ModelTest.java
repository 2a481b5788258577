import java.util.List;
import java.util.Random;

/** Runs of calls by chance, always the same ones, on the class and on the Model: all answers are the same. */
public final class ModelTest {
    private static final List<String> NAMES = List.of("f0", "f1", "f2", "f3", "f4");
    private static final int RUNS = 1500;

    private final Random random;
    private final OverlayViewer x = new OverlayViewer();
    private final Model m = new Model();
    private final int run;
    private int calls = 0;

    private ModelTest(int run) {
        this.run = run;
        this.random = new Random(run);
    }

    public static void main(String[] args) {
        int runs = args.length == 0 ? RUNS : Integer.parseInt(args[0]);
        int first = args.length < 2 ? 0 : Integer.parseInt(args[1]);
        for (int run = first; run < first + runs; run++) {
            new ModelTest(run).go();
        }
        Check.end();
    }

    private void same(String call, long got, long due) {
        calls++;
        Check.due("run " + run + " call " + calls + ": " + call, got, due);
    }

    private void go() {
        for (int i = 1 + random.nextInt(2); i > 0; i--) {
            newImage();
        }
        describe();
        for (int i = 0; i < 60; i++) {
            act();
        }
    }

    private void newImage() {
        int im = x.image();
        same("image()", im, m.image());
        int length = random.nextInt(30) == 0 ? 2000 : random.nextInt(50);
        int most = random.nextInt(4) == 0 ? 256 : 6;
        for (int n = 0; n < length;) {
            int part = 1 + random.nextInt(8);
            long w = 0;
            for (int i = 0; i < part; i++) {
                w = w << 8 | random.nextInt(most);
            }
            same("push", x.push(im, w, part), m.push(im, w, part));
            n += part;
        }
    }

    private void feed(String text) {
        for (int i = 0; i < text.length(); i += 8) {
            String piece = text.substring(i, Math.min(text.length(), i + 8));
            same("feed", x.feed(Check.packed(piece), piece.length()), m.feed(Check.packed(piece), piece.length()));
        }
    }

    private void describe() {
        same("cut", x.cut(0), m.cut(0));
        String text = Texts.description(random);
        feed(text);
        same("describe() of " + text, x.describe(), m.describe());
        same("wrong() of " + text, x.wrong(), m.wrong());
        for (int s = -1; s <= m.count(2); s++) {
            same("size(" + s + ") of " + text, x.size(s), m.size(s));
            for (int o = -1; o <= m.count(2); o++) {
                same("uses(" + s + ", " + o + ") of " + text, x.uses(s, o), m.uses(s, o));
            }
        }
    }

    private int tree() {
        return random.nextInt(12) == 0 ? random.nextInt(9) - 2 : random.nextInt(Math.max(1, m.count(4)));
    }

    private int im() {
        return random.nextInt(12) == 0 ? random.nextInt(9) - 2 : random.nextInt(Math.max(1, m.count(0)));
    }

    private int nodeIn(int tree) {
        int n = m.faults(tree, 2);
        return n <= 0 || random.nextInt(12) == 0 ? random.nextInt(20) - 2 : random.nextInt(n);
    }

    private int near(int n) {
        return random.nextInt(15) == 0 ? random.nextInt() : random.nextInt(n + 4) - 2;
    }

    private void look(int tree) {
        int n = Math.min(60, m.faults(tree, 2));
        for (int node = 0; node < n; node++) {
            for (int what = -1; what <= 8; what++) {
                same("node(" + tree + ", " + node + ", " + what + ")", x.node(tree, node, what), m.node(tree, node, what));
            }
            same("value(" + tree + ", " + node + ")", x.value(tree, node), m.value(tree, node));
            for (int i = -1; i < 3; i++) {
                same("kid", x.kid(tree, node, i), m.kid(tree, node, i));
                same("sign", x.sign(tree, node, i), m.sign(tree, node, i));
                same("letter 0", x.letter(tree, node, 0, i), m.letter(tree, node, 0, i));
                same("letter 1", x.letter(tree, node, 1, i), m.letter(tree, node, 1, i));
            }
        }
        for (int what = -1; what <= 3; what++) {
            same("faults(" + tree + ", " + what + ")", x.faults(tree, what), m.faults(tree, what));
            same("gap", x.gap(tree, 0, what), m.gap(tree, 0, what));
            same("gap", x.gap(tree, 1, what), m.gap(tree, 1, what));
        }
        for (int place = -1; place < 20; place++) {
            same("covered(" + tree + ", " + place + ")", x.covered(tree, place), m.covered(tree, place));
        }
    }

    private void compareImage(int im) {
        for (int p = -1; p <= Math.min(60, m.length(im)); p++) {
            same("at(" + im + ", " + p + ")", x.at(im, p), m.at(im, p));
            same("changed(" + im + ", " + p + ")", x.changed(im, p), m.changed(im, p));
        }
    }

    private void act() {
        int im = im();
        int tree = tree();
        int node = nodeIn(tree);
        int k = near(3);
        int place = near(Math.max(0, m.length(im)));
        switch (random.nextInt(30)) {
            case 0 -> newImageOrNone();
            case 1, 2, 3, 4, 5, 6 -> {
                int s = near(m.count(2) - 1);
                int at = random.nextBoolean() ? 0 : place;
                int laid = x.lay(im, s, at);
                same("lay(" + im + ", " + s + ", " + at + ")", laid, m.lay(im, s, at));
                look(laid);
            }
            case 7, 8 -> {
                same("relay(" + tree + ")", x.relay(tree), m.relay(tree));
                look(tree);
            }
            case 9 -> {
                if (random.nextInt(4) == 0) {
                    same("clear", x.clear(), m.clear());
                }
            }
            case 10, 11 -> find(tree);
            case 12, 13, 14 -> evaluate(tree, node);
            case 15, 16 -> {
                long v = random.nextInt(4) == 0 ? random.nextLong() >> random.nextInt(64) : random.nextInt(9) - 1;
                same("set(" + tree + ", " + node + ", " + v + ")", x.set(tree, node, v), m.set(tree, node, v));
            }
            case 17 -> {
                int b = near(5);
                same("put", x.put(tree, node, k, b), m.put(tree, node, k, b));
            }
            case 18 -> fixAll(tree);
            case 19 -> same("layer", x.layer(im), m.layer(im));
            case 20 -> {
                int b = near(9);
                same("poke(" + im + ", " + place + ", " + b + ")", x.poke(im, place, b), m.poke(im, place, b));
            }
            case 21, 22 -> {
                same("undo", x.undo(im), m.undo(im));
                compareImage(im);
            }
            case 23 -> {
                boolean sink = random.nextBoolean();
                same(sink ? "commit" : "drop", sink ? x.commit(im) : x.drop(im), sink ? m.commit(im) : m.drop(im));
                compareImage(im);
            }
            case 24 -> looks(im, k);
            case 25 -> {
                if (random.nextInt(3) == 0) {
                    describe();
                }
            }
            case 26 -> {
                int row = near(3);
                for (int i = -1; i < 74; i++) {
                    same("hex(" + im + ", " + row + ", " + i + ")", x.hex(im, row, i), m.hex(im, row, i));
                }
            }
            case 27 -> {
                int other = im();
                for (int what = -1; what < 3; what++) {
                    same("differ", x.differ(im, other, k, what), m.differ(im, other, k, what));
                }
            }
            case 28 -> {
                int n = near(8);
                long w = random.nextLong();
                same("push", x.push(im, w, n), m.push(im, w, n));
            }
            default -> {
                for (int what = -1; what < 9; what++) {
                    same("count(" + what + ")", x.count(what), m.count(what));
                }
                same("wrong", x.wrong(), m.wrong());
            }
        }
    }

    private void newImageOrNone() {
        if (m.count(0) < 6) {
            newImage();
        } else {
            same("image()", x.image(), m.image());
        }
    }

    private void find(int tree) {
        StringBuilder path = new StringBuilder();
        for (int i = random.nextInt(4); i > 0; i--) {
            path.append(random.nextBoolean() ? NAMES.get(random.nextInt(5)) : Integer.toString(random.nextInt(3)));
            path.append(random.nextInt(12) == 0 ? " u1 " : " ");
        }
        feed(path.toString());
        same("find(" + tree + ") " + path, x.find(tree), m.find(tree));
    }

    private void evaluate(int tree, int node) {
        same("cut", x.cut(0), m.cut(0));
        String text = Texts.expression(random, NAMES);
        feed(text);
        int at = random.nextBoolean() ? 0 : node;
        same("evaluate(" + tree + ", " + at + ") " + text, x.evaluate(tree, at), m.evaluate(tree, at));
        same("wrong", x.wrong(), m.wrong());
        same("out", x.out(), m.out());
    }

    private void fixAll(int tree) {
        for (int n = -1; n <= m.faults(tree, 2); n++) {
            if (m.node(tree, n, 0) == 10 || random.nextInt(5) == 0) {
                same("fix(" + tree + ", " + n + ")", x.fix(tree, n), m.fix(tree, n));
                same("value", x.value(tree, n), m.value(tree, n));
                same("fault", x.node(tree, n, 5), m.node(tree, n, 5));
            }
        }
    }

    private void looks(int im, int k) {
        int width = near(4);
        long v = random.nextInt(3) * 0x0101 + random.nextInt(3);
        same("search", x.search(im, v, width, k > 1, k), m.search(im, v, width, k > 1, k));
        int s = near(m.count(2));
        same("magic", x.magic(im, s, k), m.magic(im, s, k));
        feed(random.nextBoolean() ? "\1\1\3\0" : "\2\3");
        same("masked", x.masked(im, k), m.masked(im, k));
    }
}
