import java.util.ArrayList;
import java.util.HashSet;
import java.util.LinkedHashMap;
import java.util.List;
import java.util.Map;
import java.util.Set;
import java.util.TreeMap;

/**
 * The document once more, written another way than the class: lists and maps that are made anew, exceptions for what
 * is refused, expressions as trees of functions. ModelTest compares the two.
 */
final class Model {
    static final int NONE = -1, FULL = -2, RANGE = -3, KIND = -4, OUTSIDE = -5, MANY = -6, STATE = -7;

    // ---- images

    private static final class Lay {
        final TreeMap<Integer, Integer> bytes = new TreeMap<>();
        final List<Map<Integer, Integer>> writes = new ArrayList<>();
    }

    private static final class Img {
        final List<Integer> own = new ArrayList<>();
        final List<Lay> layers = new ArrayList<>();

        Lay top() {
            return layers.isEmpty() ? null : layers.get(layers.size() - 1);
        }

        int has(int place) {
            for (int l = layers.size() - 1; l >= 0; l--) {
                if (layers.get(l).bytes.containsKey(place)) {
                    return layers.get(l).bytes.get(place);
                }
            }
            return own.get(place);
        }

        int length() {
            return own.size();
        }

        void write(Map<Integer, Integer> bytes) {
            Lay top = top();
            if (top == null) {
                bytes.forEach(own::set);
                return;
            }
            Map<Integer, Integer> before = new LinkedHashMap<>();
            bytes.keySet().forEach(p -> before.put(p, top.bytes.get(p)));
            top.writes.add(before);
            if (top.writes.size() > 20) {
                top.writes.remove(0);
            }
            top.bytes.putAll(bytes);
        }
    }

    private final List<Img> images = new ArrayList<>();

    private Img img(int im) {
        return im >= 0 && im < images.size() ? images.get(im) : null;
    }

    int image() {
        if (images.size() == 6) {
            return FULL;
        }
        images.add(new Img());
        return images.size() - 1;
    }

    int push(int im, long w, int n) {
        Img i = img(im);
        if (i == null) {
            return NONE;
        }
        if (!i.layers.isEmpty()) {
            return STATE;
        }
        if (n < 1 || n > 8) {
            return RANGE;
        }
        if (i.length() + n > 2000) {
            return FULL;
        }
        for (int k = n - 1; k >= 0; k--) {
            i.own.add((int) (w >> (8 * k) & 255));
        }
        return i.length();
    }

    int at(int im, int place) {
        Img i = img(im);
        return i == null || place < 0 || place >= i.length() ? NONE : i.has(place);
    }

    int length(int im) {
        return img(im) == null ? NONE : img(im).length();
    }

    int layer(int im) {
        Img i = img(im);
        if (i == null) {
            return NONE;
        }
        if (i.layers.size() == 4) {
            return FULL;
        }
        i.layers.add(new Lay());
        return i.layers.size();
    }

    int commit(int im) {
        Img i = img(im);
        if (i == null) {
            return NONE;
        }
        if (i.layers.isEmpty()) {
            return STATE;
        }
        Lay gone = i.layers.remove(i.layers.size() - 1);
        if (i.top() == null) {
            gone.bytes.forEach(i.own::set);
        } else {
            i.top().bytes.putAll(gone.bytes);
        }
        return gone.bytes.size();
    }

    int drop(int im) {
        Img i = img(im);
        if (i == null) {
            return NONE;
        }
        return i.layers.isEmpty() ? STATE : i.layers.remove(i.layers.size() - 1).bytes.size();
    }

    int poke(int im, int place, int b) {
        int had = at(im, place);
        if (had == NONE) {
            return NONE;
        }
        if (b < 0 || b > 255) {
            return RANGE;
        }
        img(im).write(Map.of(place, b));
        return had;
    }

    int undo(int im) {
        Img i = img(im);
        if (i == null) {
            return NONE;
        }
        Lay top = i.top();
        if (top == null) {
            return STATE;
        }
        if (top.writes.isEmpty()) {
            return 0;
        }
        Map<Integer, Integer> back = top.writes.remove(top.writes.size() - 1);
        back.forEach((p, b) -> {
            if (b == null) {
                top.bytes.remove(p);
            } else {
                top.bytes.put(p, b);
            }
        });
        return back.size();
    }

    int changed(int im, int k) {
        Img i = img(im);
        if (i == null || i.top() == null || k < 0 || k >= i.top().bytes.size()) {
            return NONE;
        }
        return new ArrayList<>(i.top().bytes.keySet()).get(k);
    }

    // ---- texts

    private static final class Fault extends RuntimeException {
        private static final long serialVersionUID = 1;
        final int number;
        final int place;

        Fault(int number, int place) {
            super("", null, false, false);
            this.number = number;
            this.place = place;
        }
    }

    private static final class Fails extends RuntimeException {
        private static final long serialVersionUID = 1;

        Fails() {
            super("", null, false, false);
        }
    }

    private static final class TooMany extends RuntimeException {
        private static final long serialVersionUID = 1;

        TooMany() {
            super("", null, false, false);
        }
    }

    private static final Set<String> KEYS = Set.of("enum", "struct", "if", "is", "bits", "text", "until", "union", "by",
            "else", "to", "from", "here", "times", "pad", "magic", "sum", "add", "xor", "ones", "roll", "of", "left",
            "begin", "and", "or", "not");

    private record Tok(String sort, String text, int place) {
        boolean is(String wanted) {
            return text.equals(wanted) && !sort.equals("bad");
        }

        long number() {
            return text.startsWith("0x") ? Long.parseLong(text.substring(2), 16) : Long.parseLong(text);
        }
    }

    private static List<Tok> toks(String text) {
        List<Tok> all = new ArrayList<>();
        int p = 0;
        while (p < text.length()) {
            char c = text.charAt(p);
            if (c == ' ' || c == '\n') {
                p++;
                continue;
            }
            int end = p;
            while (end < text.length() && String.valueOf(text.charAt(end)).matches("[a-z0-9]")) {
                end++;
            }
            if (end == p) {
                all.add(new Tok("{}()[];:,=<>+-*/%&".indexOf(c) >= 0 ? "sign" : "bad", String.valueOf(c), p));
                p++;
                continue;
            }
            String row = text.substring(p, end);
            String sort;
            if (row.matches("[us][1-8]b?")) {
                sort = "whole";
            } else if (KEYS.contains(row)) {
                sort = "key";
            } else if (row.matches("[a-z][a-z0-9]{0,7}")) {
                sort = "name";
            } else if (row.matches("[0-9]{1,9}|0x[0-9a-f]{1,8}")) {
                sort = "number";
            } else {
                sort = "bad";
            }
            all.add(new Tok(sort, row, p));
            p = end;
        }
        all.add(new Tok("end", "", text.length()));
        return all;
    }

    private interface Expr {
        long work(N struct, int here);
    }

    private record Written(Expr expr, Long alone) {
    }

    private static final class F {
        int kind;
        String name = "";
        Written condition;
        int width;
        boolean signed;
        boolean big;
        String is;
        S inner;
        Written first;
        Written second;
        boolean array;
        long until = -1;
        long number = 1;
        String sum;
        final Map<String, int[]> parts = new LinkedHashMap<>();
        final List<Long> caseNumbers = new ArrayList<>();
        final List<S> caseTargets = new ArrayList<>();
        S otherwise;
        final List<Integer> magic = new ArrayList<>();
        Tok aim;
    }

    private static final class S {
        String name;
        int number;
        final List<F> fields = new ArrayList<>();

        /** -1: none. */
        long size() {
            long total = 0;
            for (F f : fields) {
                long n = size(f, total);
                if (f.condition != null || n < 0) {
                    return -1;
                }
                total += n;
            }
            return total > 1000000 ? -1 : total;
        }

        private static long size(F f, long before) {
            switch (f.kind) {
                case 0:
                    return f.inner.size();
                case 2:
                    if (f.first == null || f.first.alone == null || f.first.alone > 200) {
                        return -1;
                    }
                    long each = f.inner == null ? f.width : f.inner.size();
                    return each < 0 ? -1 : each * f.first.alone;
                case 5:
                    return f.first == null || f.first.alone == null || f.first.alone > 2000 ? -1 : f.first.alone;
                case 6:
                    for (S target : f.caseTargets) {
                        if (f.otherwise == null || target.size() != f.otherwise.size()) {
                            return -1;
                        }
                    }
                    return f.otherwise == null ? -1 : f.otherwise.size();
                case 8:
                    long n = 0;
                    while ((before + n) % f.number != 0) {
                        n++;
                    }
                    return n;
                case 9:
                    return f.magic.size();
                default:
                    return f.width;
            }
        }

        void reach(Set<S> reached) {
            for (F f : fields) {
                List<S> next = new ArrayList<>(f.caseTargets);
                next.add(f.inner);
                next.add(f.otherwise);
                for (S s : next) {
                    if (s != null && reached.add(s)) {
                        s.reach(reached);
                    }
                }
            }
        }
    }

    private static final class D {
        final Map<String, Map<String, Long>> enums = new LinkedHashMap<>();
        final List<S> structures = new ArrayList<>();
    }

    /** Throws a Fault at the first TOKEN that has one. */
    private final class P {
        final List<Tok> toks;
        int at = 0;
        final D d = new D();
        S s;
        F f;
        Set<String> told = new HashSet<>();

        P(String text) {
            toks = toks(text);
        }

        Tok tok() {
            return toks.get(at);
        }

        void need(boolean fine, int fault) {
            if (tok().sort.equals("bad")) {
                throw new Fault(1, tok().place);
            }
            if (!fine) {
                throw new Fault(fault, tok().place);
            }
        }

        Tok next(String sort) {
            need(tok().sort.equals(sort), 2);
            return toks.get(at++);
        }

        void sign(String text) {
            need(tok().is(text), 2);
            at++;
        }

        boolean maybe(String text) {
            boolean is = tok().is(text);
            at += is ? 1 : 0;
            return is;
        }

        D description() {
            do {
                if (tok().is("enum")) {
                    need(d.enums.size() < 8, 5);
                    at++;
                    enumeration();
                } else {
                    need(tok().is("struct"), 2);
                    need(d.structures.size() < 20, 5);
                    at++;
                    structure();
                }
            } while (!tok().sort.equals("end"));
            for (S each : d.structures) {
                for (F field : each.fields) {
                    if (field.aim != null) {
                        field.inner = named(field.aim.text);
                        if (field.inner == null) {
                            throw new Fault(4, field.aim.place);
                        }
                    }
                }
            }
            return d;
        }

        S named(String name) {
            return d.structures.stream().filter(x -> x.name.equals(name)).findFirst().orElse(null);
        }

        String itemName() {
            need(tok().sort.equals("name"), 2);
            need(!d.enums.containsKey(tok().text) && named(tok().text) == null, 3);
            return toks.get(at++).text;
        }

        long signed() {
            boolean minus = maybe("-");
            long n = next("number").number();
            return minus ? -n : n;
        }

        void enumeration() {
            String name = itemName();
            Map<String, Long> pairs = new LinkedHashMap<>();
            sign("{");
            do {
                need(tok().sort.equals("name"), 2);
                need(!pairs.containsKey(tok().text), 3);
                need(pairs.size() < 10, 5);
                String pair = toks.get(at++).text;
                sign("=");
                pairs.put(pair, signed());
            } while (maybe(","));
            sign("}");
            d.enums.put(name, pairs);
        }

        void structure() {
            s = new S();
            s.name = itemName();
            s.number = d.structures.size();
            told = new HashSet<>();
            sign("{");
            while (!tok().is("}")) {
                coreStart(true);
                need(s.fields.size() < 14, 5);
                f = new F();
                if (maybe("if")) {
                    f.condition = expr();
                    sign(":");
                    coreStart(false);
                }
                core();
                sign(";");
                s.fields.add(f);
            }
            at++;
            d.structures.add(s);
        }

        void coreStart(boolean mayBeIf) {
            Tok t = tok();
            boolean key = t.sort.equals("key") && Set.of("bits", "text", "union", "to", "pad", "magic", "sum").contains(t.text);
            need(key || t.sort.equals("whole") || t.sort.equals("name") || mayBeIf && t.is("if"), 2);
            need(!t.sort.equals("name") || named(t.text) != null, 4);
        }

        void own() {
            need(tok().sort.equals("name"), 2);
            need(!told.contains(tok().text), 3);
            f.name = toks.get(at++).text;
            told.add(f.name);
        }

        void whole() {
            String w = next("whole").text;
            f.signed = w.charAt(0) == 's';
            f.width = w.charAt(1) - '0';
            f.big = w.endsWith("b");
        }

        long number(long least, long most) {
            need(tok().sort.equals("number"), 2);
            need(tok().number() >= least && tok().number() <= most, 5);
            return toks.get(at++).number();
        }

        S ended() {
            need(tok().sort.equals("name"), 2);
            need(named(tok().text) != null, 4);
            return named(toks.get(at++).text);
        }

        void core() {
            if (tok().sort.equals("whole")) {
                f.kind = 1;
                whole();
                own();
                if (maybe("is")) {
                    need(tok().sort.equals("name"), 2);
                    need(d.enums.containsKey(tok().text), 4);
                    f.is = toks.get(at++).text;
                } else {
                    array();
                }
            } else if (tok().sort.equals("name")) {
                f.kind = 0;
                f.inner = ended();
                own();
                array();
            } else {
                switch (toks.get(at++).text) {
                    case "bits" -> bits();
                    case "text" -> text();
                    case "union" -> union();
                    case "to" -> pointer();
                    case "pad" -> {
                        f.kind = 8;
                        f.number = number(1, 64);
                    }
                    case "magic" -> magic();
                    default -> sum();
                }
            }
        }

        void array() {
            if (!maybe("[")) {
                return;
            }
            f.kind = 2;
            f.array = true;
            if (tok().is("]")) {
                need(f.inner == null || f.inner.size() > 0, 6);
            } else {
                f.first = expr();
            }
            sign("]");
        }

        void bits() {
            f.kind = 3;
            whole();
            own();
            sign("{");
            int used = 0;
            do {
                need(tok().sort.equals("name"), 2);
                need(!told.contains(tok().text), 3);
                need(f.parts.size() < 12, 5);
                String part = toks.get(at++).text;
                told.add(part);
                sign(":");
                need(tok().sort.equals("number"), 2);
                long n = tok().number();
                need(n >= 1 && n <= 64 && used + n <= 8 * f.width, 5);
                at++;
                f.parts.put(part, new int[] {used, (int) n});
                used += (int) n;
            } while (maybe(","));
            sign("}");
        }

        void text() {
            f.kind = 5;
            own();
            if (maybe("[")) {
                f.first = expr();
                sign("]");
            } else {
                sign("until");
                f.until = number(0, 255);
            }
        }

        void union() {
            f.kind = 6;
            own();
            sign("by");
            f.first = expr();
            sign("{");
            do {
                need(tok().sort.equals("number") || tok().is("-"), 2);
                need(f.caseNumbers.size() < 8, 5);
                f.caseNumbers.add(signed());
                sign(":");
                f.caseTargets.add(ended());
                sign(";");
            } while (tok().sort.equals("number") || tok().is("-"));
            if (maybe("else")) {
                f.otherwise = ended();
                sign(";");
            }
            sign("}");
        }

        void pointer() {
            f.kind = 7;
            f.aim = next("name");
            own();
            sign("by");
            whole();
            if (maybe("from")) {
                f.first = expr();
            }
            if (maybe("times")) {
                f.number = number(1, 4096);
            }
        }

        void magic() {
            f.kind = 9;
            own();
            sign("=");
            do {
                need(tok().sort.equals("number") || tok().is("*"), 2);
                need(f.magic.size() < 16, 5);
                f.magic.add(maybe("*") ? -1 : (int) number(0, 255));
            } while (tok().sort.equals("number") || tok().is("*"));
        }

        void sum() {
            f.kind = 10;
            need(tok().is("add") || tok().is("xor") || tok().is("ones") || tok().is("roll"), 2);
            f.sum = toks.get(at++).text;
            whole();
            own();
            sign("of");
            f.first = expr();
            sign(",");
            f.second = expr();
        }

        Written expr() {
            return or(0);
        }

        private Written or(int nests) {
            Written a = and(nests);
            while (maybe("or")) {
                Expr l = a.expr;
                Expr r = and(nests).expr;
                a = new Written((n, h) -> l.work(n, h) != 0 | r.work(n, h) != 0 ? 1 : 0, null);
            }
            return a;
        }

        private Written and(int nests) {
            Written a = step(nests);
            while (maybe("and")) {
                Expr l = a.expr;
                Expr r = step(nests).expr;
                a = new Written((n, h) -> l.work(n, h) != 0 & r.work(n, h) != 0 ? 1 : 0, null);
            }
            return a;
        }

        private Written step(int nests) {
            Written a = sums(nests);
            String op = tok().text;
            if (!tok().is("=") && !tok().is("<") && !tok().is(">")) {
                return a;
            }
            at++;
            Expr l = a.expr;
            Expr r = sums(nests).expr;
            int want = op.equals("=") ? 0 : op.equals("<") ? -1 : 1;
            return new Written((n, h) -> Long.compare(l.work(n, h), r.work(n, h)) == want ? 1 : 0, null);
        }

        private Written sums(int nests) {
            Written a = term(nests);
            while (tok().is("+") || tok().is("-")) {
                boolean plus = toks.get(at++).is("+");
                Expr l = a.expr;
                Expr r = term(nests).expr;
                a = new Written((n, h) -> plus ? l.work(n, h) + r.work(n, h) : l.work(n, h) - r.work(n, h), null);
            }
            return a;
        }

        private Written term(int nests) {
            Written a = factor(nests);
            while (tok().is("*") || tok().is("/") || tok().is("%") || tok().is("&")) {
                String op = toks.get(at++).text;
                Expr l = a.expr;
                Expr r = factor(nests).expr;
                a = new Written((n, h) -> {
                    long x = l.work(n, h);
                    long y = r.work(n, h);
                    if (y == 0 && "/%".contains(op)) {
                        throw new Fails();
                    }
                    return op.equals("*") ? x * y : op.equals("&") ? x & y : op.equals("/") ? x / y : x % y;
                }, null);
            }
            return a;
        }

        private Written factor(int nests) {
            Tok t = tok();
            if (t.is("(") || t.is("-") || t.is("not")) {
                need(nests < 15, 5);
                at++;
                if (t.is("(")) {
                    Written a = or(nests + 1);
                    sign(")");
                    return a;
                }
                Expr e = factor(nests + 1).expr;
                return new Written(t.is("-") ? (n, h) -> -e.work(n, h) : (n, h) -> e.work(n, h) == 0 ? 1 : 0, null);
            }
            need(t.sort.equals("number") || t.sort.equals("name") || t.is("here") || t.is("left") || t.is("begin"), 2);
            if (t.sort.equals("name")) {
                need(isNumber(t.text), 4);
            }
            at++;
            if (t.sort.equals("number")) {
                long v = t.number();
                return new Written((n, h) -> v, v);
            }
            if (t.sort.equals("name")) {
                return new Written((n, h) -> n.named(t.text), null);
            }
            return new Written((n, h) -> t.is("here") ? h : t.is("begin") ? n.from : n.tree.img.length() - h, null);
        }

        private boolean isNumber(String name) {
            return s.fields.stream().anyMatch(g -> g.name.equals(name) && (g.kind == 1 || g.kind == 7 || g.kind == 10)
                    || g.parts.containsKey(name));
        }
    }

    private final StringBuilder tape = new StringBuilder();
    private D desc = new D();
    private int wrong = 0;
    private long out = 0;

    int feed(long w, int n) {
        if (n < 1 || n > 8) {
            return RANGE;
        }
        if (tape.length() + n > 3000) {
            return FULL;
        }
        for (int k = n - 1; k >= 0; k--) {
            tape.append((char) (w >> (8 * k) & 255));
        }
        return tape.length();
    }

    int cut(int n) {
        if (n < 0 || n > tape.length()) {
            return RANGE;
        }
        tape.setLength(n);
        return n;
    }

    private String read() {
        String text = tape.toString();
        tape.setLength(0);
        return text;
    }

    int describe() {
        try {
            desc = new P(read()).description();
        } catch (Fault fault) {
            wrong = fault.number;
            return -10 - fault.place;
        }
        wrong = 0;
        trees.clear();
        return desc.structures.size();
    }

    int wrong() {
        return wrong;
    }

    private S structure(int n) {
        return n >= 0 && n < desc.structures.size() ? desc.structures.get(n) : null;
    }

    int size(int n) {
        return structure(n) == null ? NONE : structure(n).size() < 0 ? RANGE : (int) structure(n).size();
    }

    int uses(int n, int other) {
        if (structure(n) == null || structure(other) == null) {
            return NONE;
        }
        Set<S> reached = new HashSet<>();
        structure(n).reach(reached);
        return reached.contains(structure(other)) ? 1 : 0;
    }

    // ---- trees

    private static final class N {
        T tree;
        int number;
        int kind;
        int from;
        int to;
        int fault;
        boolean met;
        String name = "";
        N parent;
        F f;
        S s;
        int[] part;
        final List<N> kids = new ArrayList<>();

        void fault(int n) {
            fault = fault == 0 ? n : fault;
        }

        long raw() {
            long v = 0;
            for (int i = 0; i < to - from; i++) {
                v += (long) tree.img.has(f.big ? to - 1 - i : from + i) << (8 * i);
            }
            return v;
        }

        long value() {
            if (fault == 1) {
                return 0;
            }
            switch (kind) {
                case 1:
                case 7:
                case 10:
                    long v = raw();
                    if (f.signed && f.width < 8 && v >= 1L << (8 * f.width - 1)) {
                        v -= 1L << (8 * f.width);
                    }
                    return v;
                case 3:
                    return raw();
                case 4:
                    String bits = String.format("%64s", Long.toBinaryString(raw())).replace(' ', '0');
                    return Long.parseUnsignedLong(bits.substring(64 - part[0] - part[1], 64 - part[0]), 2);
                case 2:
                    return kids.size();
                case 5:
                    return to - from - (f.until >= 0 ? 1 : 0);
                default:
                    return 0;
            }
        }

        /** The VALUE of a field or part of this STRUCT. */
        long named(String wanted) {
            for (N kid : kids) {
                if (kid.name.equals(wanted)) {
                    if (kid.fault == 1) {
                        throw new Fails();
                    }
                    return kid.value();
                }
                for (N p : kid.kids) {
                    if (p.kind == 4 && p.name.equals(wanted)) {
                        return p.value();
                    }
                }
            }
            throw new Fails();
        }

        int away() {
            return parent == null ? 0 : 1 + parent.away();
        }

        int structs() {
            return (kind == 0 ? 1 : 0) + (parent == null ? 0 : parent.structs());
        }

        boolean over(int place) {
            return from <= place && to > place;
        }
    }

    private final class T {
        Img img;
        S root;
        int place;
        List<N> nodes = new ArrayList<>();

        void layAll() {
            nodes = new ArrayList<>();
            N n = make(null, 0, place, root.name, null);
            n.s = root;
            fields(n);
        }

        N make(N parent, int kind, int from, String name, F f) {
            if (nodes.size() == 400) {
                throw new TooMany();
            }
            N n = new N();
            n.tree = this;
            n.number = nodes.size();
            n.kind = kind;
            n.from = from;
            n.to = from;
            n.parent = parent;
            n.name = name;
            n.f = f;
            nodes.add(n);
            if (parent != null) {
                parent.kids.add(n);
            }
            return n;
        }

        N struct(N parent, S s, int at) {
            N n = make(parent, 0, at, s.name, null);
            n.s = s;
            fields(n);
            return n;
        }

        void fields(N n) {
            if (n.structs() > 20) {
                n.fault(9);
                return;
            }
            int q = n.from;
            for (F f : n.s.fields) {
                n.to = q;
                if (f.condition != null) {
                    try {
                        if (f.condition.expr.work(n, q) == 0) {
                            continue;
                        }
                    } catch (Fails e) {
                        n.fault(6);
                        continue;
                    }
                }
                N k = make(n, f.kind, q, f.name, f);
                boolean last = one(n, k, f, q);
                q = k.to;
                if (last) {
                    break;
                }
            }
            n.to = q;
        }

        /** Whether it is OUTSIDE. */
        boolean room(N k, long bytes) {
            if (k.from + bytes > img.length()) {
                k.fault(1);
                return false;
            }
            k.to = k.from + (int) bytes;
            return true;
        }

        /** Whether no more fields are laid. */
        boolean one(N n, N k, F f, int q) {
            switch (f.kind) {
                case 0:
                    k.s = f.inner;
                    fields(k);
                    return false;
                case 1:
                    if (!room(k, f.width)) {
                        return true;
                    }
                    if (f.is != null && !desc.enums.get(f.is).containsValue(k.value())) {
                        k.fault(4);
                    }
                    return false;
                case 2:
                    return array(n, k, f, q);
                case 3:
                    if (!room(k, f.width)) {
                        return true;
                    }
                    f.parts.forEach((name, part) -> {
                        N p = make(k, 4, k.from, name, f);
                        p.to = k.to;
                        p.part = part;
                    });
                    return false;
                case 5:
                    return text(n, k, f, q);
                case 6:
                    try {
                        int c = f.caseNumbers.indexOf(f.first.expr.work(n, q));
                        S target = c >= 0 ? f.caseTargets.get(c) : f.otherwise;
                        if (target == null) {
                            k.fault(7);
                        } else {
                            k.to = struct(k, target, q).to;
                        }
                    } catch (Fails e) {
                        k.fault(6);
                    }
                    return false;
                case 7:
                    return pointer(n, k, f, q);
                case 8:
                    int end = q;
                    while ((end - n.from) % f.number != 0) {
                        end++;
                    }
                    return !room(k, end - q);
                case 9:
                    if (!room(k, f.magic.size())) {
                        return true;
                    }
                    for (int i = 0; i < f.magic.size(); i++) {
                        if (f.magic.get(i) >= 0 && f.magic.get(i) != img.has(q + i)) {
                            k.fault(2);
                        }
                    }
                    return false;
                default:
                    if (!room(k, f.width)) {
                        return true;
                    }
                    try {
                        Long due = due(k);
                        if (due == null) {
                            k.fault(5);
                        } else if (due != k.raw()) {
                            k.fault(3);
                        }
                    } catch (Fails e) {
                        k.fault(6);
                    }
                    return false;
            }
        }

        boolean array(N n, N k, F f, int q) {
            long many;
            if (f.first == null) {
                many = Math.min(200, (img.length() - q) / (f.inner == null ? f.width : f.inner.size()));
            } else {
                try {
                    many = f.first.expr.work(n, q);
                } catch (Fails e) {
                    k.fault(6);
                    return false;
                }
                if (many < 0 || many > 200) {
                    k.fault(5);
                    return false;
                }
            }
            for (int i = 0; i < many; i++) {
                if (f.inner != null) {
                    k.to = struct(k, f.inner, k.to).to;
                } else {
                    N w = make(k, 1, k.to, "", f);
                    if (!room(w, f.width)) {
                        return true;
                    }
                    k.to = w.to;
                }
            }
            return false;
        }

        boolean text(N n, N k, F f, int q) {
            if (f.first == null) {
                for (int p = q; p < img.length(); p++) {
                    if (img.has(p) == f.until) {
                        k.to = p + 1;
                        return false;
                    }
                }
                k.fault(1);
                return true;
            }
            long many;
            try {
                many = f.first.expr.work(n, q);
            } catch (Fails e) {
                k.fault(6);
                return false;
            }
            if (many < 0 || many > 2000) {
                k.fault(5);
                return false;
            }
            return !room(k, many);
        }

        boolean pointer(N n, N k, F f, int q) {
            if (!room(k, f.width)) {
                return true;
            }
            long aim = k.value() * f.number;
            try {
                aim += f.first == null ? 0 : f.first.expr.work(n, q);
            } catch (Fails e) {
                k.fault(6);
                return false;
            }
            if (aim < 0 || aim >= img.length()) {
                k.fault(8);
                return false;
            }
            for (N up = n; up != null; up = up.parent) {
                if (up.kind == 0 && up.s == f.inner && up.from == aim) {
                    k.met = true;
                    return false;
                }
            }
            struct(k, f.inner, (int) aim);
            return false;
        }

        /** The lowest bits of a SUM's DUE; null: as with FAULT 5. */
        Long due(N k) {
            int base = k.parent.from;
            long a = k.f.first.expr.work(k.parent, k.from);
            long b = k.f.second.expr.work(k.parent, k.from);
            if (a < 0 || b < a || b > 2000 || base + b > img.length()) {
                return null;
            }
            long sum = 0;
            long xor = 0;
            long roll = 0;
            for (int p = base + (int) a; p < base + b; p++) {
                if (p < k.from || p >= k.to) {
                    sum += img.has(p);
                    xor ^= img.has(p);
                    roll = roll * 31 + img.has(p);
                }
            }
            long due = switch (k.f.sum) {
                case "add" -> sum;
                case "xor" -> xor;
                case "ones" -> -1 - sum;
                default -> roll;
            };
            return k.f.width == 8 ? due : due & ((1L << (8 * k.f.width)) - 1);
        }
    }

    private final List<T> trees = new ArrayList<>();

    private T tree(int t) {
        return t >= 0 && t < trees.size() ? trees.get(t) : null;
    }

    private N n(int t, int n) {
        return tree(t) == null || n < 0 || n >= tree(t).nodes.size() ? null : tree(t).nodes.get(n);
    }

    int lay(int im, int structure, int place) {
        if (img(im) == null || structure(structure) == null) {
            return NONE;
        }
        if (place < 0 || place > img(im).length()) {
            return RANGE;
        }
        if (trees.size() == 6) {
            return FULL;
        }
        T t = new T();
        t.img = img(im);
        t.root = structure(structure);
        t.place = place;
        try {
            t.layAll();
        } catch (TooMany e) {
            return MANY;
        }
        trees.add(t);
        return trees.size() - 1;
    }

    int relay(int tree) {
        T t = tree(tree);
        if (t == null) {
            return NONE;
        }
        List<N> before = t.nodes;
        try {
            t.layAll();
        } catch (TooMany e) {
            t.nodes = before;
            return MANY;
        }
        return t.nodes.size();
    }

    int clear() {
        int n = trees.size();
        trees.clear();
        return n;
    }

    int node(int t, int n, int what) {
        N k = n(t, n);
        if (k == null || what < 0 || what > 7) {
            return NONE;
        }
        int[] all = {k.kind, k.from, k.to, k.parent == null ? NONE : k.parent.number, k.kids.size(), k.fault,
            k.met ? 1 : 0, k.kind == 0 ? k.s.number : NONE};
        return all[what];
    }

    int kid(int t, int n, int k) {
        N p = n(t, n);
        return p == null || k < 0 || k >= p.kids.size() ? NONE : p.kids.get(k).number;
    }

    long value(int t, int n) {
        return n(t, n) == null ? 0 : n(t, n).value();
    }

    int sign(int t, int n, int i) {
        N k = n(t, n);
        return k == null || k.kind != 5 || i < 0 || i >= k.value() ? NONE : k.tree.img.has(k.from + i);
    }

    int letter(int t, int n, int which, int i) {
        N k = n(t, n);
        if (k == null) {
            return NONE;
        }
        String name = "";
        if (which == 0) {
            name = k.name;
        } else if (which == 1 && k.kind == 1 && k.f.is != null) {
            long v = k.value();
            for (Map.Entry<String, Long> pair : desc.enums.get(k.f.is).entrySet()) {
                if (pair.getValue() == v && name.isEmpty()) {
                    name = pair.getKey();
                }
            }
        }
        return i < 0 || i >= name.length() ? NONE : name.charAt(i);
    }

    int faults(int t, int what) {
        T tree = tree(t);
        if (tree == null || what < 0 || what > 2) {
            return NONE;
        }
        List<N> bad = tree.nodes.stream().filter(k -> k.fault != 0).toList();
        return what == 0 ? bad.size() : what == 2 ? tree.nodes.size() : bad.isEmpty() ? NONE : bad.get(0).number;
    }

    int find(int t) {
        if (tree(t) == null) {
            return NONE;
        }
        N here = tree(t).nodes.get(0);
        List<Tok> path = toks(read());
        for (int i = 0; i < path.size() - 1; i++) {
            Tok tok = path.get(i);
            N next = null;
            if (tok.sort.equals("name")) {
                next = here.kids.stream().filter(k -> k.name.equals(tok.text)).findFirst().orElse(null);
            } else if (tok.sort.equals("number") && tok.number() < here.kids.size()) {
                next = here.kids.get((int) tok.number());
            }
            if (next == null) {
                return -10 - i;
            }
            here = next;
        }
        return here.number;
    }

    int evaluate(int t, int n) {
        N k = n(t, n);
        if (k == null) {
            return NONE;
        }
        if (k.kind != 0) {
            return KIND;
        }
        try {
            P p = new P(read());
            p.s = k.s;
            Written e = p.expr();
            p.need(p.tok().sort.equals("end"), 2);
            wrong = 0;
            out = e.expr.work(k, k.to);
            return 0;
        } catch (Fault fault) {
            wrong = fault.number;
            return -10 - fault.place;
        } catch (Fails e) {
            return RANGE;
        }
    }

    long out() {
        return out;
    }

    // ---- edits

    private static Map<Integer, Integer> bytes(N k, long v) {
        Map<Integer, Integer> all = new LinkedHashMap<>();
        int width = k.to - k.from;
        for (int i = 0; i < width; i++) {
            all.put(k.f.big ? k.to - 1 - i : k.from + i, (int) (v >> (8 * i) & 255));
        }
        return all;
    }

    int set(int t, int n, long v) {
        N k = n(t, n);
        if (k == null) {
            return NONE;
        }
        if (!Set.of(1, 3, 4, 7, 10).contains(k.kind)) {
            return KIND;
        }
        if (k.fault == 1) {
            return OUTSIDE;
        }
        int bits = k.kind == 4 ? k.part[1] : 8 * k.f.width;
        boolean signed = k.f.signed && k.kind != 3 && k.kind != 4;
        if (bits < 64) {
            java.math.BigInteger b = java.math.BigInteger.valueOf(v);
            java.math.BigInteger one = java.math.BigInteger.ONE;
            java.math.BigInteger least = signed ? one.shiftLeft(bits - 1).negate() : java.math.BigInteger.ZERO;
            java.math.BigInteger most = one.shiftLeft(signed ? bits - 1 : bits).subtract(one);
            if (b.compareTo(least) < 0 || b.compareTo(most) > 0) {
                return RANGE;
            }
        }
        long raw = v;
        if (k.kind == 4) {
            raw = k.raw();
            for (int i = 0; i < bits; i++) {
                long bit = 1L << (k.part[0] + i);
                raw = (v >> i & 1) == 1 ? raw | bit : raw & ~bit;
            }
        }
        k.tree.img.write(bytes(k, raw));
        return 0;
    }

    int put(int t, int n, int i, int b) {
        N k = n(t, n);
        if (k == null) {
            return NONE;
        }
        if (k.kind != 5) {
            return KIND;
        }
        if (k.fault == 1) {
            return OUTSIDE;
        }
        if (i < 0 || i >= k.value() || b < 0 || b > 255 || b == k.f.until) {
            return RANGE;
        }
        k.tree.img.write(Map.of(k.from + i, b));
        return 0;
    }

    int fix(int t, int n) {
        N k = n(t, n);
        if (k == null) {
            return NONE;
        }
        if (k.kind != 10) {
            return KIND;
        }
        if (k.fault == 1) {
            return OUTSIDE;
        }
        try {
            Long due = k.tree.due(k);
            if (due == null) {
                return RANGE;
            }
            k.tree.img.write(bytes(k, due));
            k.fault = k.fault == 3 ? 0 : k.fault;
            return 0;
        } catch (Fails e) {
            return RANGE;
        }
    }

    // ---- looks

    private int match(Img i, int[] want, int[] mask, int k) {
        List<Integer> found = new ArrayList<>();
        for (int p = 0; p + want.length <= i.length(); p++) {
            boolean same = true;
            for (int x = 0; x < want.length; x++) {
                same &= (i.has(p + x) & mask[x]) == (want[x] & mask[x]);
            }
            if (same) {
                found.add(p);
            }
        }
        return k < 0 || k >= found.size() ? NONE : found.get(k);
    }

    int search(int im, long v, int width, boolean big, int k) {
        if (img(im) == null || width < 1 || width > 8) {
            return NONE;
        }
        int[] want = new int[width];
        int[] mask = new int[width];
        for (int i = 0; i < width; i++) {
            want[big ? width - 1 - i : i] = (int) (v >> (8 * i) & 255);
            mask[i] = 255;
        }
        return match(img(im), want, mask, k);
    }

    int masked(int im, int k) {
        int n = tape.length();
        if (img(im) == null || n == 0 || n % 2 != 0) {
            return NONE;
        }
        return match(img(im), tape.substring(0, n / 2).chars().toArray(), tape.substring(n / 2).chars().toArray(), k);
    }

    int magic(int im, int structure, int k) {
        S s = structure(structure);
        if (img(im) == null || s == null || s.fields.isEmpty() || s.fields.get(0).kind != 9
                || s.fields.get(0).condition != null) {
            return NONE;
        }
        int[] want = s.fields.get(0).magic.stream().mapToInt(x -> x).toArray();
        int[] mask = s.fields.get(0).magic.stream().mapToInt(x -> x < 0 ? 0 : 255).toArray();
        return match(img(im), want, mask, k);
    }

    int covered(int t, int place) {
        if (tree(t) == null) {
            return NONE;
        }
        N best = null;
        for (N k : tree(t).nodes) {
            if (k.over(place) && (best == null || k.away() > best.away())) {
                best = k;
            }
        }
        return best == null ? NONE : best.number;
    }

    private static int stretch(boolean[] in, int k, int what) {
        List<int[]> all = new ArrayList<>();
        for (int p = 0; p < in.length; p++) {
            if (in[p] && (p == 0 || !in[p - 1])) {
                all.add(new int[] {p, p});
            }
            if (in[p]) {
                all.get(all.size() - 1)[1] = p + 1;
            }
        }
        return k < 0 || k >= all.size() || what < 0 || what > 1 ? NONE : all.get(k)[what];
    }

    int gap(int t, int k, int what) {
        T tree = tree(t);
        if (tree == null) {
            return NONE;
        }
        boolean[] in = new boolean[tree.img.length()];
        for (int p = 0; p < in.length; p++) {
            int place = p;
            in[p] = tree.nodes.stream().noneMatch(x -> x.over(place) && x.kind != 0 && x.kind != 2 && x.kind != 6);
        }
        return stretch(in, k, what);
    }

    int differ(int im, int other, int k, int what) {
        Img a = img(im);
        Img b = img(other);
        if (a == null || b == null) {
            return NONE;
        }
        boolean[] in = new boolean[Math.max(a.length(), b.length())];
        for (int p = 0; p < in.length; p++) {
            in[p] = p >= a.length() || p >= b.length() || a.has(p) != b.has(p);
        }
        return stretch(in, k, what);
    }

    int hex(int im, int row, int i) {
        Img a = img(im);
        if (a == null || row < 0 || 16L * row >= a.length()) {
            return NONE;
        }
        StringBuilder line = new StringBuilder(String.format("%04x:", 16 * row));
        StringBuilder letters = new StringBuilder(" |");
        for (int p = 16 * row; p < 16 * row + 16; p++) {
            if (p < a.length()) {
                line.append(String.format(" %02x", a.has(p)));
                letters.append(a.has(p) >= 32 && a.has(p) <= 126 ? (char) a.has(p) : '.');
            } else {
                line.append("   ");
            }
        }
        line.append(letters).append("|");
        return i < 0 || i >= line.length() ? NONE : line.charAt(i);
    }

    int count(int what) {
        switch (what) {
            case 0:
                return images.size();
            case 1:
                return tape.length();
            case 2:
                return desc.structures.size();
            case 3:
                return desc.enums.size();
            case 4:
                return trees.size();
            case 5:
                return trees.stream().mapToInt(t -> t.nodes.size()).sum();
            case 6:
                return images.stream().mapToInt(i -> i.layers.size()).sum();
            case 7:
                return images.stream().flatMap(i -> i.layers.stream()).mapToInt(l -> l.writes.size()).sum();
            default:
                return NONE;
        }
    }
}
