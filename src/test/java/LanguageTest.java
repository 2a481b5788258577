import java.io.IOException;
import java.lang.reflect.Array;
import java.lang.reflect.Constructor;
import java.lang.reflect.Field;
import java.lang.reflect.Method;
import java.lang.reflect.Modifier;
import java.nio.file.Files;
import java.nio.file.Path;
import java.util.ArrayDeque;
import java.util.ArrayList;
import java.util.Collections;
import java.util.Deque;
import java.util.IdentityHashMap;
import java.util.List;
import java.util.Set;
import java.util.TreeSet;
import java.util.regex.Matcher;
import java.util.regex.Pattern;

/** The face of the class, the rules of LANGUAGE.md that can be seen from outside, and the room that an object takes. */
public final class LanguageTest {
    private static final String FACE = "int image() int push(int,long,int) int at(int,int) int length(int) int layer(int)"
            + " int commit(int) int drop(int) int poke(int,int,int) int undo(int) int changed(int,int) int feed(long,int)"
            + " int cut(int) int describe() int wrong() int size(int) int uses(int,int) int lay(int,int,int) int relay(int)"
            + " int clear() int node(int,int,int) int kid(int,int,int) long value(int,int) int sign(int,int,int)"
            + " int letter(int,int,int,int) int faults(int,int) int find(int) int evaluate(int,int) long out()"
            + " int set(int,int,long) int put(int,int,int,int) int fix(int,int) int search(int,long,int,boolean,int)"
            + " int masked(int,int) int magic(int,int,int) int covered(int,int) int gap(int,int,int)"
            + " int differ(int,int,int,int) int hex(int,int,int) int count(int)";

    public static void main(String[] args) throws IOException, IllegalAccessException {
        face();
        classes();
        words();
        room();
        Check.end();
    }

    private static void face() throws IllegalAccessException {
        Set<String> due = new TreeSet<>();
        Matcher m = Pattern.compile("(\\w+) (\\w+\\([\\w,]*\\))").matcher(FACE);
        while (m.find()) {
            due.add(m.group(1) + " " + m.group(2));
        }
        Check.due("methods of the document", due.size(), 39);
        Set<String> got = new TreeSet<>();
        for (Method method : OverlayViewer.class.getDeclaredMethods()) {
            if (!Modifier.isPrivate(method.getModifiers())) {
                List<String> types = new ArrayList<>();
                for (Class<?> type : method.getParameterTypes()) {
                    types.add(type.getSimpleName());
                }
                got.add(method.getReturnType() + " " + method.getName() + "(" + String.join(",", types) + ")");
                Check.due(method.getName() + " is public", Modifier.isPublic(method.getModifiers()) ? 1 : 0, 1);
            }
        }
        Check.due("the methods", got.toString(), due.toString());
        List<String> constants = new ArrayList<>();
        for (Field field : OverlayViewer.class.getDeclaredFields()) {
            if (!Modifier.isPrivate(field.getModifiers())) {
                constants.add(Modifier.toString(field.getModifiers()) + " " + field.getName() + " " + field.getInt(null));
            }
        }
        Check.due("the constants", constants.toString(), "[public static final NONE -1, public static final FULL -2,"
                + " public static final RANGE -3, public static final KIND -4, public static final OUTSIDE -5,"
                + " public static final MANY -6, public static final STATE -7]");
        Check.due("one constructor", OverlayViewer.class.getDeclaredConstructors().length, 1);
        for (Constructor<?> constructor : OverlayViewer.class.getDeclaredConstructors()) {
            Check.due("the constructor", constructor.toString(), "public OverlayViewer()");
        }
        Check.due("the class", Modifier.toString(OverlayViewer.class.getModifiers()), "public final");
    }

    private static void classes() {
        Set<String> publicNames = new TreeSet<>();
        for (Method method : OverlayViewer.class.getMethods()) {
            publicNames.add(method.getName());
        }
        List<Class<?>> all = new ArrayList<>(List.of(OverlayViewer.class.getDeclaredClasses()));
        Check.due("at most twelve classes", all.size() + 1 <= 12 ? 1 : 0, 1);
        for (Class<?> inside : all) {
            Check.due(inside + " is static", Modifier.isStatic(inside.getModifiers()) ? 1 : 0, 1);
            Check.due(inside + " is not public", Modifier.isPublic(inside.getModifiers()) ? 1 : 0, 0);
        }
        all.add(OverlayViewer.class);
        for (Class<?> each : all) {
            int fields = 0;
            for (Field field : each.getDeclaredFields()) {
                boolean isStatic = Modifier.isStatic(field.getModifiers());
                fields += isStatic ? 0 : 1;
                Check.due(field + " is no static state", isStatic && !Modifier.isFinal(field.getModifiers()) ? 1 : 0, 0);
            }
            Check.due(each + " has at most twenty fields", fields <= 20 ? 1 : 0, 1);
            for (Method method : each.getDeclaredMethods()) {
                Check.due(method + " takes at most seven", method.getParameterCount() <= 7 ? 1 : 0, 1);
                boolean same = !Modifier.isPublic(method.getModifiers()) && publicNames.contains(method.getName());
                Check.due(method + " bears no public name", same ? 1 : 0, 0);
            }
        }
    }

    private static void words() throws IOException {
        String source = Files.readString(Path.of("src/main/java/OverlayViewer.java"));
        String code = source.replaceAll("(?s)/\\*.*?\\*/", "").replaceAll("//[^\n]*", "").replaceAll("\"[^\"]*\"", "\"\"");
        for (String word : List.of("throw", "throws", "try", "catch", "finally", "synchronized", "assert", "package", "var",
                "double", "float", "Object", "Exception", "System.out", "System.exit", "random", "Thread", "native")) {
            Check.due("'" + word + "' in the class", Pattern.compile("\\b" + word + "\\b").matcher(code).find() ? 1 : 0, 0);
        }
        Check.due("no lambda or method reference", code.contains("->") || code.contains("::") ? 1 : 0, 0);
        Check.due("no joining by +", Pattern.compile("\"\" *\\+|\\+ *\"\"").matcher(code).find() ? 1 : 0, 0);
        Matcher imports = Pattern.compile("import ([\\w.]+);").matcher(code);
        while (imports.find()) {
            Check.due("an import", imports.group(1), "java.util.Arrays");
        }
        Matcher library = Pattern.compile("\\b(Arrays|System|Math|Integer|Long)\\.(\\w+)").matcher(code);
        Set<String> used = new TreeSet<>();
        while (library.find()) {
            used.add(library.group(1) + "." + library.group(2));
        }
        used.removeAll(Set.of("Arrays.fill", "System.arraycopy", "Math.max", "Math.min", "Math.floorMod"));
        Check.due("the library", used.toString(), "[]");
        int begin = 0;
        int line = 0;
        for (String row : source.split("\n")) {
            line++;
            if (row.matches(" {4}( {4})?[\\w<>\\[\\] ]+\\(.*\\{")) {
                begin = line;
            }
            if (row.matches(" {4}( {4})?}") && begin > 0) {
                Check.due("lines of the method at " + begin, line - begin < 60 ? 1 : 0, 1);
                begin = 0;
            }
        }
    }

    /** All that an object makes it keeps, so what can be reached from a used one is what its calls made. */
    private static void room() throws IllegalAccessException {
        OverlayViewer x = new OverlayViewer();
        for (int im = 0; im < 6; im++) {
            Check.filled(x, 48, 100);
            for (int l = 0; l < 4; l++) {
                x.layer(im);
            }
        }
        Check.describe(x, "struct e{}struct s{e a[199];e b[197];}");
        for (int t = 0; t < 6; t++) {
            x.lay(0, 1, 0);
            x.relay(t);
        }
        Check.due("all nodes", x.count(5), 6 * 399);
        long[] full = reached(x);
        for (int i = 0; i < 60; i++) {
            Check.describe(x, i % 2 == 0 ? "struct s{u1 a;}" : "struct s{");
            x.lay(0, 0, 0);
            x.relay(0);
            x.clear();
            x.drop(0);
            x.layer(0);
            x.poke(0, 0, 1);
            x.undo(0);
            Check.evaluate(x, 0, 0, "a");
            x.gap(0, 0, 0);
            x.search(0, 1, 1, false, 0);
        }
        long[] later = reached(x);
        Check.due("no more objects", later[0], full[0]);
        Check.due("no more elements", later[1], full[1]);
        Check.due("objects: " + full[0], full[0] < 600000 / 50 ? 1 : 0, 1);
        Check.due("fields and elements: " + full[1], full[1] < 7300000 / 20 ? 1 : 0, 1);
    }

    private static long[] reached(Object root) throws IllegalAccessException {
        Set<Object> seen = Collections.newSetFromMap(new IdentityHashMap<>());
        Deque<Object> open = new ArrayDeque<>();
        open.add(root);
        seen.add(root);
        long elements = 0;
        while (!open.isEmpty()) {
            Object o = open.poll();
            List<Object> next = new ArrayList<>();
            if (o.getClass().isArray()) {
                elements += Array.getLength(o);
                for (int i = 0; !o.getClass().getComponentType().isPrimitive() && i < Array.getLength(o); i++) {
                    next.add(Array.get(o, i));
                }
            } else {
                for (Field field : o.getClass().getDeclaredFields()) {
                    if (!Modifier.isStatic(field.getModifiers())) {
                        elements++;
                        field.setAccessible(true);
                        next.add(field.getType().isPrimitive() ? null : field.get(o));
                    }
                }
            }
            for (Object each : next) {
                if (each != null && seen.add(each)) {
                    open.add(each);
                }
            }
        }
        return new long[] {seen.size(), elements};
    }
}
