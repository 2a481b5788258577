import java.util.ArrayList;
import java.util.List;
import java.util.Random;

/** Makes descriptions and expressions by chance, most of them right or nearly so. */
final class Texts {
    private static final String[] STRAY = {"enum", "struct", "if", "is", "bits", "text", "until", "union", "by", "else",
        "to", "from", "here", "times", "pad", "magic", "sum", "add", "xor", "ones", "roll", "of", "left", "begin", "and",
        "or", "not", "u1", "s2b", "u9", "a", "b", "s0", "e0", "{", "}", "(", ")", "[", "]", ";", ":", ",", "=", "<", ">",
        "+", "-", "*", "/", "%", "&", "0", "1", "7", "255", "256", "0x", "0xff", "1a", "abcdefghi", "A", "#", "64", "65"};

    private final Random random;
    private final List<String> tokens = new ArrayList<>();
    private final List<String> structures = new ArrayList<>();
    private final List<String> enums = new ArrayList<>();
    private List<String> told = new ArrayList<>();
    private List<String> numbers = new ArrayList<>();

    private Texts(Random random) {
        this.random = random;
    }

    static String description(Random random) {
        Texts t = new Texts(random);
        int items = 1 + random.nextInt(5);
        for (int i = 0; i < items; i++) {
            if (random.nextInt(5) == 0) {
                t.enumeration();
            } else {
                t.structure();
            }
        }
        return t.finish(random.nextInt(3) == 0);
    }

    static String expression(Random random, List<String> names) {
        Texts t = new Texts(random);
        t.numbers = names;
        t.expr(0);
        return t.finish(random.nextInt(4) == 0);
    }

    private String finish(boolean spoil) {
        if (spoil) {
            for (int i = 1 + random.nextInt(2); i > 0; i--) {
                int at = random.nextInt(tokens.size() + 1);
                if (at < tokens.size() && random.nextBoolean()) {
                    tokens.remove(at);
                }
                if (random.nextInt(3) > 0) {
                    tokens.add(Math.min(at, tokens.size()), STRAY[random.nextInt(STRAY.length)]);
                }
            }
        }
        StringBuilder all = new StringBuilder();
        for (String token : tokens) {
            char last = all.length() == 0 ? ' ' : all.charAt(all.length() - 1);
            boolean apart = Character.isLetterOrDigit(last) && Character.isLetterOrDigit(token.charAt(0));
            if (apart || random.nextInt(20) == 0) {
                all.append(random.nextInt(4) == 0 ? '\n' : ' ');
            }
            all.append(token);
        }
        return all.toString();
    }

    private void add(String... more) {
        for (String token : more) {
            tokens.add(token);
        }
    }

    private boolean chance(int of) {
        return random.nextInt(of) == 0;
    }

    private String pick(List<String> from, String other) {
        return from.isEmpty() || chance(150) ? other : from.get(random.nextInt(from.size()));
    }

    private String number(int most) {
        int n = random.nextInt(most + 1);
        return chance(6) ? "0x" + Integer.toHexString(n) : Integer.toString(n);
    }

    private void signed() {
        if (chance(4)) {
            add("-");
        }
        add(number(8));
    }

    private void enumeration() {
        String name = "e" + enums.size();
        add("enum", name, "{");
        int pairs = 1 + random.nextInt(chance(10) ? 11 : 4);
        for (int i = 0; i < pairs; i++) {
            add("p" + i, "=");
            signed();
            add(i == pairs - 1 ? "}" : ",");
        }
        enums.add(name);
    }

    private void structure() {
        // the s is left out: s0 to s8 are whole types or near to them
        String name = "k" + structures.size();
        told = new ArrayList<>();
        numbers = new ArrayList<>();
        add("struct", name, "{");
        int fields = random.nextInt(chance(12) ? 15 : 6);
        for (int i = 0; i < fields; i++) {
            if (chance(6)) {
                add("if");
                expr(0);
                add(":");
            }
            core();
            add(";");
        }
        add("}");
        structures.add(name);
    }

    private String own() {
        String name = chance(80) && !told.isEmpty() ? told.get(0) : "f" + told.size();
        told.add(name);
        return name;
    }

    private String type() {
        int width = chance(4) ? 1 + random.nextInt(8) : 1 + random.nextInt(2);
        return (chance(3) ? "s" : "u") + width + (chance(3) ? "b" : "");
    }

    private void core() {
        int which = random.nextInt(14);
        boolean wantsStructure = which == 4 || which == 5 || which == 8 || which == 9;
        switch (wantsStructure && structures.isEmpty() && !chance(20) ? 0 : which) {
            case 0, 1, 2 -> {
                String name = own();
                add(type(), name);
                if (!enums.isEmpty() && chance(3)) {
                    add("is", pick(enums, "f0"));
                }
                numbers.add(name);
            }
            case 3 -> {
                add(type(), own());
                array();
            }
            case 4, 5 -> {
                add(pick(structures, "k9"), own());
                if (chance(2)) {
                    array();
                }
            }
            case 6 -> bits();
            case 7 -> {
                add("text", own());
                if (chance(2)) {
                    add("[");
                    expr(1);
                    add("]");
                } else {
                    add("until", number(chance(9) ? 300 : 4));
                }
            }
            case 8, 9 -> union();
            case 10 -> {
                String name = own();
                add("to", chance(2) ? "k" + random.nextInt(structures.size() + 1) : pick(structures, "k" + structures.size()),
                        name, "by", chance(2) ? "u1" : type());
                if (chance(3)) {
                    add("from", "here", "+", "1");
                } else if (chance(3)) {
                    add("from");
                    expr(1);
                }
                if (chance(3)) {
                    add("times", chance(20) ? number(4100) : "" + (1 + random.nextInt(3)));
                }
                numbers.add(name);
            }
            case 11 -> add("pad", chance(20) ? number(65) : "" + (1 + random.nextInt(5)));
            case 12 -> {
                add("magic", own(), "=");
                for (int i = 1 + random.nextInt(chance(9) ? 17 : 3); i > 0; i--) {
                    add(chance(4) ? "*" : number(chance(30) ? 300 : 3));
                }
            }
            default -> {
                String name = own();
                String[] kinds = {"add", "xor", "ones", "roll"};
                add("sum", kinds[random.nextInt(4)], chance(2) ? "u1" : type(), name, "of");
                expr(1);
                add(",");
                expr(1);
                numbers.add(name);
            }
        }
    }

    private void array() {
        add("[");
        if (chance(8)) {
            add(number(210));
        } else if (!chance(4)) {
            expr(1);
        }
        add("]");
    }

    private void bits() {
        List<String> parts = new ArrayList<>();
        add("bits", type(), own(), "{");
        int n = 1 + random.nextInt(chance(12) ? 13 : 3);
        for (int i = 0; i < n; i++) {
            String name = own();
            parts.add(name);
            add(name, ":", chance(20) ? number(65) : "" + (1 + random.nextInt(n < 3 ? 4 : 2)), i == n - 1 ? "}" : ",");
        }
        numbers.addAll(parts);
    }

    private void union() {
        add("union", own(), "by");
        expr(1);
        add("{");
        for (int i = 1 + random.nextInt(chance(12) ? 9 : 3); i > 0; i--) {
            signed();
            add(":", pick(structures, "k8"), ";");
        }
        if (chance(2)) {
            add("else", pick(structures, "k8"), ";");
        }
        add("}");
    }

    private void expr(int depth) {
        if (depth > 0 && chance(3) || depth > 20) {
            operand();
            return;
        }
        if (depth < 20 && chance(150)) {
            for (int i = 15 - random.nextInt(3); i >= 0; i--) {
                add(chance(2) ? "-" : "not");
            }
            operand();
            return;
        }
        String[] signs = {"+", "-", "*", "/", "%", "&", "=", "<", ">", "and", "or"};
        switch (random.nextInt(5)) {
            case 0 -> {
                add("(");
                expr(depth + 3);
                add(")");
            }
            case 1 -> {
                add(chance(2) ? "-" : "not");
                operand();
            }
            case 2 -> operand();
            default -> {
                operand();
                for (int i = 1 + random.nextInt(2); i > 0; i--) {
                    add(signs[random.nextInt(signs.length)]);
                    if (chance(4)) {
                        expr(depth + 5);
                    } else {
                        operand();
                    }
                }
            }
        }
    }

    private void operand() {
        switch (random.nextInt(7)) {
            case 0, 1, 2 -> add(number(chance(12) ? 3000 : 5));
            case 3 -> add(random.nextBoolean() ? "here" : random.nextBoolean() ? "left" : "begin");
            default -> add(numbers.isEmpty() ? number(4) : pick(numbers, chance(2) ? "f0" : "zz"));
        }
    }
}
