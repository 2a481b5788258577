/** What is gone leaves nothing behind: an object that has had other descriptions and TREES answers as a new one does. */
public final class ReuseTest {
    private static final int[] BYTES = {2, 1, 0, 3, 7, 0, 9, 1, 255, 4, 5, 6, 0, 0, 1, 2};

    /** Descriptions of unlike forms; each leaves rows of another kind in the places that the next one uses. */
    private static final String[] TEXTS = {
        "enum e{a=1,b=2,c=3}struct t{u1 v;}struct s{u1 n is e;bits u1 f{p:1,q:2,r:5};t x[n];to s y by u1 from 1 times 2;text z[1];}",
        "struct s{to s a by u1;magic m=1 * 0;if 0:u1 b;sum roll u2b c of 0,here;u8 d;}",
        "enum e{z=9}enum f{a=2}struct a{}struct b{u1 a;}struct s{u1 y is e;union u by 2{1:a;2:b;else a;};text t until 0;s2b w;u1 x is f;}",
        "struct s{if 1/0:u1 a;s1 b;u1 c[b-2];text d[99];pad 4;bits u2 g{h:16};u1 k;}",
        "struct q{to r z by u1;}struct r{q v;}struct s{u1 a;u1 b;u1 c;u1 d;u1 e;u1 f;u1 g;u1 h;u1 i;u1 j;u1 k;u1 l;u1 m;u1 n;}",
        "enum e{a=0,b=0,c=1}struct s{u2 a is e;s8b b;u4 c[];}",
        "struct s{magic m=2 1;}",
        "struct s{}"};
    /** Texts with a FAULT, far behind. */
    private static final String[] FAULTY = {
        "enum e{k=7,l=8}struct z{u1 a;u1 b;magic c=1 2 3;}struct s{bits u4 b{i:9,j:9};to z y by s1 times 7;u1 c is k;}",
        "struct s{u1 a;text b[a];if a:u1 c;union d by a{1:s;};}"};

    /** NAMES that some of these have, and some have not. */
    private static final String[] NAMES = {"n", "a", "b", "p", "r"};

    public static void main(String[] args) {
        describedAnew();
        longTextsBefore();
        faultsBetween();
        laidAnew();
        relaidAnew();
        layeredAnew();
        Check.end();
    }

    private static OverlayViewer withBytes() {
        OverlayViewer x = new OverlayViewer();
        Check.image(x, BYTES);
        return x;
    }

    private static String treeOf(OverlayViewer x, int tree) {
        int nodes = x.faults(tree, 2);
        StringBuilder all = new StringBuilder().append(nodes).append(' ');
        // the first ones tell enough, and an object is good for 512 calls
        for (int n = 0; n < Math.min(22, nodes); n++) {
            all.append(Check.node(x, tree, n)).append(' ').append((char) Math.max('-', x.letter(tree, n, 0, 0)));
            all.append((char) Math.max('-', x.letter(tree, n, 1, 0))).append(' ').append(x.kid(tree, n, 0)).append('|');
        }
        for (String name : NAMES) {
            all.append(name).append(' ').append(Check.find(x, tree, name)).append(' ').append(Check.evaluate(x, tree, 0, name)).append(' ');
        }
        return all.append(x.faults(tree, 0)).append(' ').append(x.faults(tree, 1)).toString();
    }

    /** What can be asked of the latest description and its last structure. */
    private static String answers(OverlayViewer x) {
        StringBuilder all = new StringBuilder();
        for (int what = 2; what < 6; what++) {
            all.append(x.count(what)).append(' ');
        }
        int structures = x.count(2);
        for (int s = 0; s < structures; s++) {
            all.append("size ").append(x.size(s)).append(" uses ");
            for (int o = 0; o < structures; o++) {
                all.append(x.uses(s, o));
            }
        }
        all.append(" magic ").append(x.magic(0, structures - 1, 0)).append(" lay ").append(x.lay(0, structures - 1, 0)).append(' ');
        return all.append(treeOf(x, 0)).toString();
    }

    private static String answersOfNew(String text) {
        OverlayViewer x = withBytes();
        Check.describe(x, text);
        return answers(x);
    }

    private static void describedAnew() {
        Check.says("A description that is read takes the place of the one before; all TREES are gone then.");
        for (String first : TEXTS) {
            for (String second : TEXTS) {
                for (String third : TEXTS) {
                    OverlayViewer x = withBytes();
                    for (String text : new String[] {first, second}) {
                        Check.describe(x, text);
                        x.lay(0, x.count(2) - 1, 0);
                        x.lay(0, 0, 1);
                    }
                    Check.due("describe", Check.describe(x, third) > 0 ? 1 : 0, 1);
                    Check.due(third + " behind " + second + " behind " + first, answers(x), answersOfNew(third));
                }
            }
        }
    }

    private static void longTextsBefore() {
        Check.says("THE TAPE has at most 3000 bytes (each text has all of it anew)");
        String text = "struct s{u1 n;u1 a[n+1" + "+0".repeat(20) + "];text b[n*2-1];}";
        OverlayViewer x = withBytes();
        Check.due("a long text with a fault", Check.describe(x, "struct s{text t[" + "1+".repeat(1492)), -10 - 3000);
        Check.describe(x, text);
        x.lay(0, 0, 0);
        OverlayViewer y = withBytes();
        Check.describe(y, text);
        y.lay(0, 0, 0);
        Check.due("a text behind it", Check.node(x, 0, 2) + Check.node(x, 0, 6), Check.node(y, 0, 2) + Check.node(y, 0, 6));
        Check.due("size", x.size(0), Check.RANGE);
    }

    private static void faultsBetween() {
        Check.says("describe: -10 less the PLACE of its FAULT (the description before, and its TREES, stay)");
        for (String faulty : FAULTY) {
            for (String text : TEXTS) {
                OverlayViewer x = withBytes();
                OverlayViewer y = withBytes();
                Check.describe(x, text);
                Check.describe(y, text);
                x.lay(0, x.count(2) - 1, 1);
                y.lay(0, y.count(2) - 1, 1);
                Check.due("a fault", Check.describe(x, faulty) < -9 ? 1 : 0, 1);
                Check.due("what stays of " + text, treeOf(x, 0), treeOf(y, 0));
                Check.due("laid then", x.relay(0), y.relay(0));
                OverlayViewer z = withBytes();
                Check.describe(z, text);
                Check.describe(z, faulty);
                Check.due("what is laid of " + text, answers(z), answersOfNew(text));
                z = withBytes();
                Check.describe(z, faulty);
                Check.describe(z, text);
                Check.due("described behind a fault: " + text, answers(z), answersOfNew(text));
            }
        }
    }

    private static void laidAnew() {
        Check.says("TO LAY a structure over an IMAGE at a PLACE makes a TREE of NODES");
        for (String text : TEXTS) {
            for (int place = 0; place <= 4; place++) {
                OverlayViewer x = withBytes();
                Check.describe(x, text);
                int last = x.count(2) - 1;
                x.lay(0, last, 0);
                x.lay(0, last, 7);
                x.clear();
                x.lay(0, last, 2);
                x.lay(0, 0, 3);
                x.clear();
                OverlayViewer y = withBytes();
                Check.describe(y, text);
                Check.due("lay", x.lay(0, last, place), y.lay(0, last, place));
                Check.due(text + " at " + place, treeOf(x, 0), treeOf(y, 0));
            }
        }
    }

    private static void relaidAnew() {
        Check.says("relay: A TREE's structure is LAID anew at its PLACE: how many NODES.");
        String text = "enum e{a=1}struct q{u1 v;}struct s{u1 n is e;to s p by u1;u1 a[n];text t until 0;if n=3:u1 z;sum add u1 c of 0,n;"
                + "union u by n{3:q;};}";
        for (int before = 0; before < 8; before++) {
            for (int after = 0; after < 8; after++) {
                OverlayViewer x = withBytes();
                Check.describe(x, text);
                x.poke(0, 0, before);
                x.poke(0, 1, 7 - before);
                x.lay(0, 1, 0);
                x.relay(0);
                x.poke(0, 0, after);
                x.poke(0, 1, 7 - after);
                OverlayViewer y = withBytes();
                Check.describe(y, text);
                y.poke(0, 0, after);
                y.poke(0, 1, 7 - after);
                y.lay(0, 1, 0);
                Check.due("relay", x.relay(0), y.faults(0, 2));
                Check.due("with " + after + " behind " + before, treeOf(x, 0), treeOf(y, 0));
            }
        }
    }

    private static void layeredAnew() {
        Check.says("layer: One LAYER more upon an IMAGE (a new one has no BYTES and no kept WRITES)");
        for (int taken = 0; taken < 3; taken++) {
            OverlayViewer x = withBytes();
            for (int l = 0; l < 4; l++) {
                x.layer(0);
                x.poke(0, l, 100 + l);
                x.poke(0, 15, 200 + l);
            }
            for (int l = 0; l < 4; l++) {
                int gone = taken == 0 ? x.drop(0) : taken == 1 ? x.commit(0) : l % 2 == 0 ? x.commit(0) : x.drop(0);
                Check.due("gone", gone >= 2 ? 1 : 0, 1);
            }
            for (int l = 0; l < 4; l++) {
                Check.due("layer", x.layer(0), l + 1);
                Check.due("no BYTES", x.changed(0, 0), Check.NONE);
                Check.due("no WRITES", x.undo(0), 0);
            }
            Check.due("kept", x.count(7), 0);
            for (int l = 0; l < 4; l++) {
                Check.due("drop", x.drop(0), 0);
            }
        }
    }
}
