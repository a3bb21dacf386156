import java.io.IOException;
import java.lang.reflect.Array;
import java.lang.reflect.Field;
import java.lang.reflect.Method;
import java.lang.reflect.Modifier;
import java.nio.file.Files;
import java.nio.file.Path;
import java.util.Arrays;
import java.util.Collections;
import java.util.IdentityHashMap;
import java.util.List;
import java.util.Set;
import java.util.TreeSet;
import java.util.regex.Matcher;
import java.util.regex.Pattern;

/** The public face, the constants, and what of the rules of the language a text search can see. */
public final class FaceTest {
    private static final String FACE = "persons(int) feed(int,long) term(int) fault() lets(int,int,int) count(int)"
            + " grows(int,int,int) judge(int,int) settled(int) end(int) climb(int,int,int) hangs(int,int) leaving(int,int)"
            + " soft(int,int) byDay(int) dares(int) offer(int,int,int) rests(int,int,int) leastTop(int) sly(int,int,int)"
            + " possible(int,int) sure(int,int) telling(int,int)";

    private FaceTest() {
    }

    public static void main(String[] args) throws IOException, IllegalAccessException {
        constants();
        methods();
        nothingElseIsSeen();
        language(Files.readString(Path.of("src/main/java/IfYouWill.java")));
        wildArguments();
        room();
        Check.end("FaceTest");
    }

    private static void constants() {
        Check.due("NONE", IfYouWill.NONE, -1);
        Check.due("UNKNOWN", IfYouWill.UNKNOWN, -1001);
        Check.due("OUTSIDE", IfYouWill.OUTSIDE, -1002);
        Check.due("NOT", IfYouWill.NOT, -1003);
        Check.due("FULL", IfYouWill.FULL, -1004);
    }

    private static void methods() {
        TreeSet<String> seen = new TreeSet<>();
        for (Method m : IfYouWill.class.getDeclaredMethods()) {
            if (Modifier.isPublic(m.getModifiers())) {
                String types = Arrays.stream(m.getParameterTypes()).map(Class::getName).reduce((a, b) -> a + "," + b).orElse("");
                seen.add(m.getName() + "(" + types + ")");
                due("an int from " + m.getName(), m.getReturnType() == int.class);
            }
        }
        due("the face " + seen, seen.equals(new TreeSet<>(List.of(FACE.split(" ")))));
        due("public and final", Modifier.isFinal(IfYouWill.class.getModifiers()));
        due("one public constructor", IfYouWill.class.getConstructors().length == 1
                && IfYouWill.class.getDeclaredConstructors().length == 1);
    }

    private static void nothingElseIsSeen() {
        List<String> names = Arrays.stream(FACE.split(" ")).map(m -> m.substring(0, m.indexOf('('))).toList();
        for (Method m : IfYouWill.class.getDeclaredMethods()) {
            boolean open = Modifier.isPublic(m.getModifiers());
            due(m + " is public or private", m.isSynthetic() || open || Modifier.isPrivate(m.getModifiers()));
            due(m + " bears a name of its own", open || !names.contains(m.getName()));
        }
        for (Field f : IfYouWill.class.getDeclaredFields()) {
            boolean open = List.of("NONE", "UNKNOWN", "OUTSIDE", "NOT", "FULL").contains(f.getName());
            due(f + " is a constant or private", open ? Modifier.isPublic(f.getModifiers()) : Modifier.isPrivate(f.getModifiers()));
        }
        due("twelve classes at most", IfYouWill.class.getDeclaredClasses().length < 12);
        for (Class<?> inside : IfYouWill.class.getDeclaredClasses()) {
            due(inside + " is static", Modifier.isStatic(inside.getModifiers()));
            long fields = Arrays.stream(inside.getDeclaredFields()).filter(f -> !Modifier.isStatic(f.getModifiers())).count();
            due(inside + " has twenty fields at most", fields <= 20);
            for (Field f : inside.getDeclaredFields()) {
                boolean constant = Modifier.isFinal(f.getModifiers()) && f.getType() == int.class;
                due(f + " is no static state", !Modifier.isStatic(f.getModifiers()) || constant);
            }
            for (Method m : inside.getDeclaredMethods()) {
                due(m + " bears a name of its own", !names.contains(m.getName()));
                due(m + " has seven parameters at most", m.getParameterCount() <= 7);
            }
        }
    }

    private static void language(String source) {
        String code = source.replaceAll("(?s)/\\*.*?\\*/", "").replaceAll("//[^\n]*", "").replaceAll("\"[^\"\n]*\"", "\"\"");
        for (String word : List.of("throw", "throws", "try", "catch", "synchronized", "assert", "var", "Object", "null", "default ->")) {
            due("no " + word, !Pattern.compile("\\b" + word + "\\b").matcher(code).find());
        }
        for (String sign : List.of("->", "::", "Exact(", "System.", "\"\" +", "+ \"\"", "java.io", "@")) {
            due("no " + sign, !code.contains(sign));
        }
        Matcher imports = Pattern.compile("import ([\\w.]+);").matcher(code);
        while (imports.find()) {
            due("import of " + imports.group(1), imports.group(1).equals("java.util.Arrays"));
        }
        Matcher methods = Pattern.compile("(?m)^( +)(?:\\w+ )*\\w+\\([^()]*\\) \\{\n(?s:.*?)\n\\1\\}").matcher(source);
        int found = 0;
        while (methods.find()) {
            found++;
            long lines = methods.group().lines().count();
            due("sixty lines at most: " + methods.group().lines().findFirst().orElse(""), lines <= 60);
        }
        due("methods were found", found > 60);
    }

    /** The room for all calls of a run is told: an object takes little of it, and calls take none. */
    private static void room() throws IllegalAccessException {
        IfYouWill x = Check.with("1 if any 2 give 1", "as 0", "most if not sum 6", "least", "2 if day 4", "3");
        long atFirst = elements(new IfYouWill(), Collections.newSetFromMap(new IdentityHashMap<>()));
        due("few fields and elements: " + atFirst, atFirst < 5000);
        for (int row = 0; row < 60; row++) {
            x.climb(row, 1, 0);
            x.soft(IfYouWill.NONE, row);
            x.sly(row % 6, 5, 0);
            x.grows(row % 6, 1 + row % 9, 0);
            x.possible(row, row);
            x.leastTop(1 + row);
            Check.tell(x, row % 6, "2 if not (sum 4 and any 2) else most");
        }
        long later = elements(x, Collections.newSetFromMap(new IdentityHashMap<>()));
        due("as many later: " + later, later == atFirst);
    }

    private static long elements(Object o, Set<Object> seen) throws IllegalAccessException {
        if (o == null || !seen.add(o)) {
            return 0;
        }
        if (o.getClass().isArray()) {
            long all = Array.getLength(o);
            for (int k = 0; k < Array.getLength(o) && !o.getClass().getComponentType().isPrimitive(); k++) {
                all += elements(Array.get(o, k), seen);
            }
            return all;
        }
        long all = 0;
        for (Field f : o.getClass().getDeclaredFields()) {
            if (!Modifier.isStatic(f.getModifiers())) {
                f.setAccessible(true);
                all += 1 + (f.getType().isPrimitive() ? 0 : elements(f.get(o), seen));
            }
        }
        return all;
    }

    /** No call may throw, whatever it is given. */
    private static void wildArguments() {
        int[] wild = {Integer.MIN_VALUE, -1002, -2, -1, 0, 1, 3, 5, 9, 32, 63, 64, 4095, 4096, Integer.MAX_VALUE};
        for (int a : wild) {
            for (int b : wild) {
                IfYouWill x = Check.with("1 if any 2 give 1", "as 0", "most if not sum 6", "least", "2 if day 4", "3");
                for (int c : wild) {
                    int all = x.lets(a, b, c) & x.grows(a, b, c) & x.climb(a, b, c) & x.offer(a, b, c) & x.rests(a, b, c)
                            & x.sly(a, b, c) & x.feed(a, c);
                    due("an answer", all != Integer.MIN_VALUE);
                }
                x.judge(a, b);
                x.hangs(a, b);
                x.leaving(a, b);
                x.soft(a, b);
                x.possible(a, b);
                x.sure(a, b);
                x.telling(a, b);
                x.count(a);
                x.settled(a);
                x.end(a);
                x.byDay(a);
                x.dares(a);
                x.leastTop(a);
                x.term(a);
                x.persons(a);
            }
        }
    }

    private static void due(String what, boolean is) {
        Check.due(what, is ? 1 : 0, 1);
    }
}
