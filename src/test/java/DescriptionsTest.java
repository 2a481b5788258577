/** Promises 12 to 17, and the FAULTS of texts. */
public final class DescriptionsTest {
    public static void main(String[] args) {
        feedAndCut();
        goodOnes();
        tokens();
        misplaced();
        names();
        toNames();
        tooMuch();
        numbers();
        nests();
        arraysWithoutExpr();
        whatAFaultLeaves();
        size();
        uses();
        Check.end();
    }

    private static void feedAndCut() {
        OverlayViewer x = new OverlayViewer();
        Check.due("feed", x.feed(0x6162, 2), 2);
        Check.due("feed 8", x.feed(-1, 8), 10);
        Check.due("feed n 0", x.feed(1, 0), Check.RANGE);
        Check.due("feed n 9", x.feed(1, 9), Check.RANGE);
        Check.due("feed n -1", x.feed(1, -1), Check.RANGE);
        Check.due("cut beyond", x.cut(11), Check.RANGE);
        Check.due("cut -1", x.cut(-1), Check.RANGE);
        Check.due("cut all that is there", x.cut(10), 10);
        Check.due("cut", x.cut(1), 1);
        Check.due("count(1)", x.count(1), 1);
        for (int i = 0; i < 374; i++) {
            x.feed(0, 8);
        }
        Check.due("2993", x.count(1), 2993);
        Check.due("feed beyond", x.feed(0, 8), Check.FULL);
        Check.due("feed n 9 ahead of full", x.feed(0, 9), Check.RANGE);
        Check.due("feed to the end", x.feed(0, 7), 3000);
        Check.due("feed beyond", x.feed(0, 1), Check.FULL);
        Check.due("cut to 0", x.cut(0), 0);
        OverlayViewer y = Check.viewer("struct a{u2b v;}", 0x12, 0x34);
        y.lay(0, 0, 0);
        y.feed(0x767778, 3);
        y.cut(1);
        Check.due("the highest byte comes first", y.find(0), 1);
    }

    private static void goodOnes() {
        Check.good(0, "enum e{a=1}");
        Check.good(1, "struct s{}");
        Check.good(2, "struct s{}\nstruct\n t { }");
        Check.good(2, "enum e{x=1,y=-2,z=0xff}struct s0{u1 n is e;u1b a[n];bits u2 b{p:3,q:5};text t[2];text w until 0;}"
                + "struct t1{magic m=1 * 0x0f;s0 z;s0 y[2];union u by here{1:s0;-2:s0;else s0;};u2 o;}");
        Check.good(1, "struct s{to s w by u1 from begin times 2;to s v by s8b;sum roll u2 c of 0,here-begin;pad 64;if 1:pad 1;}");
        Check.good(1, "struct s{u1 n;if n=1 and not n or n<2:u1 m[(n+1)*2-3/n%2&7];}");
        Check.good(1, "struct s{bits u1 b{p:3,q:5};u1 a[p+q];sum add u1 c of 0,1;to s w by u1;u1 d[c+w];}");
        Check.good(2, "struct s{u1 s;}struct t{s t;u1 u9;u1 s9b;u1 u1c;u1 enumx;}");
    }

    private static void tokens() {
        Check.fault(1, "struct s{u1 ^A;}");
        Check.fault(1, "struct s{u1 ^abcdefghi;}");
        Check.good(1, "struct abcdefgh{u1 a2345678;}");
        Check.fault(1, "struct s{pad ^1a;}");
        Check.fault(1, "struct s{pad ^0x;}");
        Check.fault(1, "struct s{pad ^0xg;}");
        Check.fault(1, "struct s{magic m=^0x123456789;}");
        Check.fault(1, "enum e{a=^1234567890}");
        Check.good(0, "enum e{a=123456789,b=0xffffffff,c=000000001}");
        Check.fault(1, "^_");
        Check.fault(1, "^\t");
        Check.fault(1, "struct s{}^\r");
        Check.fault(1, "struct s{pad 2^.5;}");
        Check.fault(1, "struct s{u1 a^!;}");
        Check.fault(1, "struct s{pad 1^X1;}");
        Check.fault(1, "^\u00e9");
    }

    private static void misplaced() {
        Check.fault(2, "^");
        Check.fault(2, "  \n ^");
        Check.fault(2, "^s");
        Check.fault(2, "struct s{}^;");
        Check.fault(2, "struct ^u1{}");
        Check.fault(2, "struct ^if{}");
        Check.fault(2, "struct s^;");
        Check.fault(2, "struct s{^");
        Check.fault(2, "struct s{u1 a^");
        Check.fault(2, "struct s{u1 a^}");
        Check.fault(2, "struct s{^;}");
        Check.fault(2, "struct s{^enum e{a=1}}");
        Check.fault(2, "enum e{^}");
        Check.fault(2, "enum e{a^}");
        Check.fault(2, "enum e{a=^b}");
        Check.fault(2, "enum e{a=-^-1}");
        Check.fault(2, "enum e{a=1,^}");
        Check.fault(2, "enum e{a=1^;}");
        Check.fault(2, "struct s{u1 ^3;}");
        Check.fault(2, "struct s{u1 a is ^3;}");
        Check.fault(2, "enum e{a=1}struct s{u1 a is e^[3];}");
        Check.fault(2, "struct s{u1 a[3]^is e;}");
        Check.fault(2, "struct s{u1 a[3^;}");
        Check.fault(2, "struct s{u1 a[^;}");
        Check.fault(2, "struct t{}struct s{t a ^is e;}");
        Check.fault(2, "struct s{bits ^b{p:1};}");
        Check.fault(2, "struct s{bits u1 b{^};}");
        Check.fault(2, "struct s{bits u1 b{p^=1};}");
        Check.fault(2, "struct s{bits u1 b{p:1,^};}");
        Check.fault(2, "struct s{text t^;}");
        Check.fault(2, "struct s{text t[^];}");
        Check.fault(2, "struct s{text t until ^a;}");
        Check.fault(2, "struct s{union u ^{1:s;};}");
        Check.fault(2, "struct s{union u by 1{^};}");
        Check.fault(2, "struct t{}struct s{union u by 1{^else t;};}");
        Check.fault(2, "struct t{}struct s{union u by 1{1:t;else t;^2:t;};}");
        Check.fault(2, "struct t{}struct s{union u by 1{1:t^}}");
        Check.fault(2, "struct t{}struct s{union u by 1{1:t;}^}");
        Check.fault(2, "struct s{to s ^by u1;}");
        Check.fault(2, "struct s{to s a^;}");
        Check.fault(2, "struct s{to s a by ^b;}");
        Check.fault(2, "struct s{to s a by u1 times 2 ^from 1;}");
        Check.fault(2, "struct s{pad ^a;}");
        Check.fault(2, "struct s{magic m^;}");
        Check.fault(2, "struct s{magic m=^;}");
        Check.fault(2, "struct s{magic m=1^,2;}");
        Check.fault(2, "struct s{sum ^u1 c of 0,1;}");
        Check.fault(2, "struct s{sum add ^c of 0,1;}");
        Check.fault(2, "struct s{sum add u1 c ^0,1;}");
        Check.fault(2, "struct s{sum add u1 c of 0^;}");
        Check.fault(2, "struct s{if 1 ^u1 a;}");
        Check.fault(2, "struct s{if ^:u1 a;}");
        Check.fault(2, "struct s{if 1:^if 1:u1 a;}");
        Check.fault(2, "struct s{if 1=2^=3:u1 a;}");
        Check.fault(2, "struct s{if (1^:u1 a;}");
        Check.fault(2, "struct s{if 1+^+1:u1 a;}");
        Check.fault(2, "struct s{if 1 ^not 1:u1 a;}");
        Check.fault(2, "struct s{if 1 ^2:u1 a;}");
        Check.good(1, "struct s{if 1=2 and 3<4 or (1=1)=1:u1 a;if 1+-1--1:u1 b;}");
    }

    private static void names() {
        Check.fault(3, "enum e{a=1}enum ^e{a=1}");
        Check.fault(3, "enum e{a=1}struct ^e{}");
        Check.fault(3, "struct s{}enum ^s{a=1}");
        Check.fault(3, "struct s{}struct ^s{}");
        Check.fault(3, "enum e{a=1,^a=2}");
        Check.good(0, "enum e{a=1,b=1}enum f{a=1,e=2}");
        Check.fault(3, "struct s{u1 a;u1 ^a;}");
        Check.fault(3, "struct s{u1 a;bits u1 b{^a:1};}");
        Check.fault(3, "struct s{bits u1 b{^b:1};}");
        Check.fault(3, "struct s{bits u1 b{a:1,^a:1};}");
        Check.fault(3, "struct s{bits u1 b{a:1};text ^a[1];}");
        Check.fault(3, "struct s{u1 a;magic ^a=1;}");
        Check.fault(3, "struct s{u1 a;to s ^a by u1;}");
        Check.fault(3, "struct s{u1 a;sum add u1 ^a of 0,1;}");
        Check.fault(3, "struct t{}struct s{u1 a;t ^a;}");
        Check.fault(3, "struct t{}struct s{u1 a;union ^a by 1{1:t;};}");
        Check.fault(4, "struct s{u1 a is ^e;}");
        Check.fault(4, "struct t{}struct s{u1 a is ^t;}");
        Check.fault(4, "struct s{^t a;}struct t{}");
        Check.fault(4, "struct s{^s a;}");
        Check.fault(4, "enum e{a=1}struct s{^e a;}");
        Check.fault(4, "struct s{if 1:^t a;}");
        Check.fault(4, "struct s{u1 n;union u by n{1:^s;}}");
        Check.fault(4, "struct t{}struct s{union u by 1{1:t;else ^s;};}");
        Check.fault(4, "struct s{if ^a:u1 a;}");
        Check.fault(4, "struct s{u1 a[^a];}");
        Check.fault(4, "struct s{u1 a[2];u1 b[^a];}");
        Check.fault(4, "struct s{text t[2];u1 b[^t];}");
        Check.fault(4, "struct t{}struct s{t a;u1 b[^a];}");
        Check.fault(4, "struct s{bits u1 b{p:1};u1 c[p];u1 d[^b];}");
        Check.fault(4, "struct s{magic m=1;u1 b[^m];}");
        Check.fault(4, "struct s{u1 b[^c];u1 c;}");
        Check.fault(4, "struct t{u1 a;}struct s{t t;u1 b[^a];}");
        // the field that is being told is not one told before
        Check.fault(4, "struct s{sum add u1 c of 0,^c;}");
        Check.fault(4, "struct s{to s w by u1 from ^w;}");
    }

    private static void toNames() {
        Check.good(2, "struct s{to t a by u1;to s b by u1;}struct t{}");
        Check.fault(4, "struct s{to ^t a by u1;}");
        Check.fault(4, "struct s{to ^e a by u1;to f b by u1;}enum e{a=1}");
        Check.fault(2, "struct s{to t a by u1;}struct ^;");
        Check.fault(1, "struct s{to t a by u1;}^#");
        Check.fault(2, "struct s{to t a by u1;}struct q{^");
        Check.fault(4, "struct s{to s a by u1;}struct q{to ^t b by u1;to z c by u1;}");
        Check.fault(3, "struct s{to t a by u1;u1 ^a;}");
    }

    private static void tooMuch() {
        Check.good(20, Check.times(20, "struct a#{}"));
        Check.fault(5, Check.times(20, "struct a#{}") + "^struct b{}");
        Check.fault(5, Check.times(20, "struct a#{}") + "^struct 1");
        Check.good(0, Check.times(8, "enum e#{a=1}"));
        Check.fault(5, Check.times(8, "enum e#{a=1}") + "^enum b{a=1}");
        Check.good(1, "struct s{" + Check.times(14, "u1 a#;") + "}");
        Check.fault(5, "struct s{" + Check.times(14, "u1 a#;") + "^u1 b;}");
        Check.fault(5, "struct s{" + Check.times(14, "u1 a#;") + "^if 1:u1 b;}");
        Check.fault(5, "struct t{}struct s{" + Check.times(14, "pad 1;") + "^t b;}");
        Check.fault(4, "struct s{" + Check.times(14, "pad 1;") + "^t b;}");
        Check.fault(2, "struct s{" + Check.times(14, "pad 1;") + "^1;}");
        Check.good(0, "enum e{z=0" + Check.times(9, ",a#=#") + "}");
        Check.fault(5, "enum e{z=0" + Check.times(9, ",a#=#") + ",^b=1}");
        Check.fault(3, "enum e{z=0" + Check.times(9, ",a#=#") + ",^z=1}");
        Check.fault(2, "enum e{z=0" + Check.times(9, ",a#=#") + ",^1}");
        Check.good(1, "struct s{bits u2 b{z:1" + Check.times(11, ",a#:1") + "};}");
        Check.fault(5, "struct s{bits u2 b{z:1" + Check.times(11, ",a#:1") + ",^c:1};}");
        Check.fault(3, "struct s{bits u2 b{z:1" + Check.times(11, ",a#:1") + ",^z:1};}");
        Check.good(2, "struct t{}struct s{union u by 1{" + Check.times(8, "#:t;") + "else t;};}");
        Check.fault(5, "struct t{}struct s{union u by 1{" + Check.times(8, "#:t;") + "^9:t;};}");
        Check.fault(5, "struct t{}struct s{union u by 1{" + Check.times(8, "#:t;") + "^-9:t;};}");
        Check.good(1, "struct s{magic m=" + Check.times(8, "* 1 ") + ";}");
        Check.fault(5, "struct s{magic m=" + Check.times(8, "* 1 ") + "^1;}");
        Check.fault(5, "struct s{magic m=" + Check.times(16, "*") + "^*;}");
    }

    private static void numbers() {
        Check.fault(5, "struct s{bits u1 b{p:^0};}");
        Check.fault(5, "struct s{bits u1 b{p:^9};}");
        Check.fault(5, "struct s{bits u1 b{p:3,q:^6};}");
        Check.fault(5, "struct s{bits u1 b{p:8,q:^1};}");
        Check.fault(5, "struct s{bits u8 b{p:^65};}");
        Check.good(1, "struct s{bits u8 b{p:64};bits s1b c{q:3,r:5};}");
        Check.fault(5, "struct s{text t until ^256;}");
        Check.good(1, "struct s{text t until 255;text w until 0;}");
        Check.fault(5, "struct s{magic m=1 ^256;}");
        Check.good(1, "struct s{magic m=0 255;}");
        Check.fault(5, "struct s{pad ^0;}");
        Check.fault(5, "struct s{pad ^65;}");
        Check.fault(5, "struct s{to s a by u1 times ^0;}");
        Check.fault(5, "struct s{to s a by u1 times ^4097;}");
        Check.good(1, "struct s{to s a by u1 times 4096;to s b by u1 from 3 times 1;}");
    }

    private static void nests() {
        Check.good(1, "struct s{u1 a[" + Check.times(15, "(") + "1" + Check.times(15, ")") + "];}");
        Check.fault(5, "struct s{u1 a[" + Check.times(15, "(") + "^(1");
        Check.good(1, "struct s{u1 a[" + Check.times(15, "-") + "1];}");
        Check.fault(5, "struct s{u1 a[" + Check.times(15, "-") + "^-1];}");
        Check.fault(5, "struct s{u1 a[" + Check.times(15, "not ") + "^not 1];}");
        Check.fault(5, "struct s{u1 a[" + Check.times(5, "-(not ") + "^(1)];}");
        Check.good(1, "struct s{u1 a[" + Check.times(14, "(") + "-1+-1-(2)" + Check.times(14, ")") + "];}");
        Check.good(1, "struct s{u1 a[" + Check.times(40, "-1+(2)*") + "1];}");
        Check.fault(2, "struct s{u1 a[" + Check.times(15, "(") + "^)];}");
    }

    private static void arraysWithoutExpr() {
        Check.good(1, "struct s{u1 a[];u8b b[];}");
        Check.good(2, "struct t{u1 a;}struct s{t a[];}");
        Check.fault(6, "struct t{}struct s{t a[^];}");
        Check.fault(6, "struct t{text x until 0;}struct s{t a[^];}");
        Check.fault(6, "struct t{u1 a[];}struct s{t a[ ^];}");
        Check.good(2, "struct t{u1 a[];}struct s{t a[3];}");
    }

    private static void whatAFaultLeaves() {
        OverlayViewer x = Check.viewer("enum e{a=1}struct s{u1 a;}struct t{u2 a;}", 1, 2, 3);
        x.lay(0, 0, 0);
        Check.due("a text with a fault", Check.describe(x, "struct q{"), -19);
        Check.due("wrong", x.wrong(), 2);
        Check.due("the structures stay", x.count(2), 2);
        Check.due("the enums stay", x.count(3), 1);
        Check.due("the trees stay", x.count(4), 1);
        Check.due("size stays", x.size(1), 2);
        Check.due("find says nothing of wrong", Check.find(x, 0, "nix"), -10);
        Check.due("wrong is that of the latest text", x.wrong(), 2);
        Check.due("a new one", Check.describe(x, "struct q{u4 a;}"), 1);
        Check.due("wrong", x.wrong(), 0);
        Check.due("takes the place", x.count(2), 1);
        Check.due("no enums", x.count(3), 0);
        Check.due("no trees", x.count(4), 0);
        Check.due("size", x.size(0), 4);
        Check.due("size(1)", x.size(1), Check.NONE);
        Check.due("enums alone", Check.describe(x, "enum e{a=1}enum f{a=1}"), 0);
        Check.due("count(2)", x.count(2), 0);
        Check.due("count(3)", x.count(3), 2);
    }

    private static void sized(int size, String text) {
        OverlayViewer x = new OverlayViewer();
        int structures = Check.describe(x, text);
        Check.due("size of " + text, x.size(structures - 1), size);
    }

    private static void size() {
        sized(0, "struct s{}");
        sized(36, "struct s{u1 a;s2b b;u3 c;u4 d;u5 e;u6 f;u7 g;u8b h;}");
        sized(3, "struct s{bits u3 a{p:1};}");
        sized(16, "struct s{u1 a;pad 8;pad 8;u1 b;pad 16;}");
        sized(5, "struct s{magic m=1 * 3;sum add u2 c of 0,0;}");
        sized(6, "struct s{to s a by u2;to s b by u4b from 1 times 2;}");
        sized(14, "struct s{text t[(2)];u4 a[((3))];}");
        sized(2000, "struct s{text t[2000];}");
        sized(Check.RANGE, "struct s{text t[2001];}");
        sized(200, "struct s{u1 t[200];}");
        sized(Check.RANGE, "struct s{u1 t[201];}");
        sized(Check.RANGE, "struct s{u1 a[1+1];}");
        sized(Check.RANGE, "struct s{u1 a[--1];}");
        sized(Check.RANGE, "struct s{u1 a[here];}");
        sized(Check.RANGE, "struct s{text t until 0;}");
        sized(Check.RANGE, "struct s{u1 a[];}");
        sized(Check.RANGE, "struct s{if 1:u1 a;}");
        sized(0, "struct s{u4 a[0];text t[0];}");
        sized(4, "struct t{u1 a;}struct s{t a;t b[3];}");
        sized(16, "struct t{u1 a;pad 4;}struct s{u1 x;pad 4;t b[3];}");
        sized(Check.RANGE, "struct t{text t until 0;}struct s{t a;}");
        sized(Check.RANGE, "struct t{text t until 0;}struct s{t a[0];}");
        sized(1, "struct t{text t until 0;}struct s{to t a by u1;}");
        sized(2, "struct t{u2 a;}struct q{u1 a[2];}struct s{union u by 1{1:t;2:q;else t;};}");
        sized(Check.RANGE, "struct t{u2 a;}struct q{u1 a[2];}struct s{union u by 1{1:t;2:q;};}");
        sized(Check.RANGE, "struct t{u2 a;}struct q{u1 a[3];}struct s{union u by 1{1:t;2:q;else t;};}");
        sized(Check.RANGE, "struct t{u1 a[];}struct s{union u by 1{1:t;else t;};}");
        sized(1000000, "struct t{u8 a[125];}struct q{t a[200];}struct s{q a[5];}");
        sized(Check.RANGE, "struct t{u8 a[125];}struct q{t a[200];}struct s{q a[5];u1 b;}");
        sized(Check.RANGE, "struct t{u8 a[125];}struct q{t a[200];}struct r{q a[200];}struct s{r a[200];}");
        OverlayViewer x = Check.viewer("struct s{}");
        Check.due("size(-1)", x.size(-1), Check.NONE);
        Check.due("size(1)", x.size(1), Check.NONE);
    }

    private static void uses() {
        OverlayViewer x = Check.viewer("struct a{}struct b{a x;}struct c{b x[2];}struct d{union u by 1{1:b;else a;};}"
                + "struct e{to f x by u1;}struct f{to e x by u1;}struct g{to g x by u1;}"
                + "struct h{union u by 1{1:a;else d;};}");
        String[] due = {"00000000", "10000000", "11000000", "11000000", "00001100", "00001100", "00000010", "11010000"};
        for (int s = 0; s < 8; s++) {
            for (int o = 0; o < 8; o++) {
                Check.due("uses(" + s + ", " + o + ")", x.uses(s, o), due[s].charAt(o) - '0');
            }
        }
        Check.due("uses(8, 0)", x.uses(8, 0), Check.NONE);
        Check.due("uses(0, 8)", x.uses(0, 8), Check.NONE);
        Check.due("uses(-1, 0)", x.uses(-1, 0), Check.NONE);
        Check.due("uses(0, -1)", x.uses(0, -1), Check.NONE);
    }
}
