import java.lang.reflect.Array;
import java.lang.reflect.Constructor;
import java.lang.reflect.Field;
import java.lang.reflect.Method;
import java.lang.reflect.Modifier;
import java.nio.file.Files;
import java.nio.file.Path;
import java.util.ArrayList;
import java.util.Arrays;
import java.util.List;
import java.util.Set;
import java.util.TreeSet;
import java.util.regex.Matcher;
import java.util.regex.Pattern;

/** The class has the document's face and no other, and its source keeps to what LANGUAGE.md leaves. */
public final class FaceTest {
    private static final String[] FACE = {
        "int grave(int,int)", "int robbed(int,int)", "int weight(int,int)", "int over(int,int)", "int type(int)",
        "int wipe()", "int fault()", "int tell(int)", "int read(int,int,int)", "int asOf(int)", "int has(int)",
        "int gaps(int,int)", "int best(int)", "int first(int)", "int sure(int,int)", "int places(int)",
        "int spread(int,int)", "long mean(int)", "int leftOut()", "int mended(int)", "int phases(int,int)",
        "int years(int,int,int)", "int fresh(int,int)", "long alike(int,int,int)", "int nearest(int)",
        "int sheet(int,int,int)", "int lose(int)", "int put(int,int,int,int)", "int get(int,int,int)",
        "int copy(int,int,int,int,int)", "int write(int)", "int count(int)", "long digest()"};
    private static final String[] RULED_OUT = {
        "\\bthrow\\b", "\\bthrows\\b", "\\btry\\b", "\\bcatch\\b", "\\bsynchronized\\b", "\\bassert\\b",
        "\\bimport\\b", "\\bpackage\\b", "\\bprotected\\b", "->", "::", "\\bThread\\b", "\\bRandom\\b",
        "System\\.(?!arraycopy)", "Exact\\b", "\\bObject\\b", "\\bstatic\\s*\\{", "while\\s*\\(\\s*true",
        "\\bclone\\b", "\\bString\\b", "\""};
    /** An object's own rows are made by its fields and by its constructor, and by nothing else. */
    private static final Pattern MADE_ONCE = Pattern.compile(
        "(private )?final [\\w\\[\\]]+ \\w+ = new .*;|sheets\\[s\\] = new Sheet\\(\\);");
    private static final Pattern METHOD = Pattern.compile("( +)(?!.*\\bclass\\b)[\\w\\[\\] ]+\\(.*\\) \\{");
    private static final int MOST_LINES = 60;
    /** Some 600,000 objects and 7.3 million elements are the room of all: it holds over 1,500 objects of these. */
    private static final int MOST_MADE = 40, MOST_ELEMENTS = 4600;
    private static final Set<String> LIBRARY = new TreeSet<>(Arrays.asList(
        "Integer.bitCount", "Integer.numberOfTrailingZeros", "Math.max", "Math.min", "System.arraycopy"));
    private static int wrong = 0;

    private static void fail(String what) {
        wrong++;
        System.out.println(what);
    }

    private static String signature(Method m) {
        StringBuilder text = new StringBuilder(m.getReturnType().getSimpleName() + " " + m.getName() + "(");
        for (Class<?> p : m.getParameterTypes()) {
            text.append(text.toString().endsWith("(") ? "" : ",").append(p.getSimpleName());
        }
        return text.append(")").toString();
    }

    private static void methods() {
        Set<String> found = new TreeSet<>();
        Set<String> names = new TreeSet<>();
        for (Method m : GraveOrder.class.getDeclaredMethods()) {
            if (Modifier.isPublic(m.getModifiers()) && !Modifier.isStatic(m.getModifiers())) {
                found.add(signature(m));
                names.add(m.getName());
            } else if (!Modifier.isPrivate(m.getModifiers())) {
                fail("not private: " + m);
            }
        }
        Set<String> face = new TreeSet<>(Arrays.asList(FACE));
        if (!found.equals(face)) {
            fail("the face is " + found + ", due is " + face);
        }
        for (Method m : GraveOrder.class.getDeclaredMethods()) {
            if (Modifier.isPrivate(m.getModifiers()) && names.contains(m.getName())) {
                fail("a private method with a public one's name: " + m);
            }
        }
        for (Class<?> c : GraveOrder.class.getDeclaredClasses()) {
            for (Method m : c.getDeclaredMethods()) {
                if (names.contains(m.getName())) {
                    fail("a method inside with a public one's name: " + m);
                }
            }
        }
    }

    private static void fields() {
        Set<String> constants = new TreeSet<>();
        for (Field f : GraveOrder.class.getDeclaredFields()) {
            if (Modifier.isPublic(f.getModifiers())) {
                constants.add(f.getName());
            } else if (!Modifier.isPrivate(f.getModifiers())) {
                fail("not private: " + f);
            }
        }
        if (!constants.equals(new TreeSet<>(Arrays.asList("NONE", "BAD", "NOT", "FULL")))) {
            fail("public constants are " + constants);
        }
    }

    private static void classes() {
        if (!Modifier.isFinal(GraveOrder.class.getModifiers()) || GraveOrder.class.getSuperclass() != Object.class) {
            fail("the class is not final, or extends another one");
        }
        for (Constructor<?> c : GraveOrder.class.getDeclaredConstructors()) {
            if (!Modifier.isPublic(c.getModifiers()) || c.getParameterCount() != 0) {
                fail("another constructor: " + c);
            }
        }
        Class<?>[] inside = GraveOrder.class.getDeclaredClasses();
        if (inside.length > 11) {
            fail("more than twelve classes");
        }
        for (Class<?> c : inside) {
            if (!Modifier.isStatic(c.getModifiers()) || Modifier.isPublic(c.getModifiers())) {
                fail("not static, or public: " + c);
            }
            int own = 0;
            for (Field f : c.getDeclaredFields()) {
                own += Modifier.isStatic(f.getModifiers()) ? 0 : 1;
                if (Modifier.isStatic(f.getModifiers()) && !Modifier.isFinal(f.getModifiers())) {
                    fail("static and not final: " + f);
                }
            }
            if (own > 20) {
                fail("more than twenty fields: " + c);
            }
            for (Method m : c.getDeclaredMethods()) {
                if (m.getParameterCount() > 7) {
                    fail("more than seven parameters: " + m);
                }
            }
        }
    }

    private static void source() throws Exception {
        String text = Files.readString(Path.of("src/main/java/GraveOrder.java"));
        String code = text.replaceAll("(?s)/\\*.*?\\*/", "").replaceAll("//[^\n]*", "");
        for (String ruledOut : RULED_OUT) {
            Matcher m = Pattern.compile(ruledOut).matcher(code);
            if (m.find()) {
                fail("the source has " + m.group());
            }
        }
        Matcher library = Pattern.compile("\\b(Integer|Long|Math|System|Arrays|String)\\b(\\.\\w+)?").matcher(code);
        while (library.find()) {
            if (!LIBRARY.contains(library.group())) {
                fail("the source has " + library.group());
            }
        }
        made(code);
        lengths(text);
        for (int i = 0; i < text.length(); i++) {
            if (text.charAt(i) > 126) {
                fail("the source has the sign " + (int) text.charAt(i));
            }
        }
    }

    private static void made(String code) {
        int found = 0;
        for (String line : code.split("\n")) {
            if (Pattern.compile("\\bnew\\b").matcher(line).find()) {
                found++;
                if (!MADE_ONCE.matcher(line.trim()).matches()) {
                    fail("made by a call: " + line.trim());
                }
            }
        }
        if (found == 0) {
            fail("nothing is made: the source is not read as it was meant");
        }
    }

    private static void lengths(String text) {
        String[] lines = text.split("\n");
        int found = 0;
        for (int i = 0; i < lines.length; i++) {
            Matcher m = METHOD.matcher(lines[i]);
            if (!m.matches() || m.group(1).length() > 8) {
                continue;
            }
            found++;
            int end = i;
            while (end < lines.length && !lines[end].equals(m.group(1) + "}")) {
                end++;
            }
            if (end - i >= MOST_LINES) {
                fail("longer than " + MOST_LINES + " lines: " + lines[i].trim());
            }
        }
        if (found < FACE.length) {
            fail("the source has " + found + " methods: it is not read as it was meant");
        }
    }

    /** Objects and arrays in the list, all that is held by those ahead of them behind them. */
    private static int elementsOf(List<Object> all) throws Exception {
        int elements = 0;
        for (int i = 0; i < all.size(); i++) {
            Object o = all.get(i);
            if (o.getClass().isArray()) {
                elements += Array.getLength(o);
                for (int k = 0; o instanceof Object[] && k < Array.getLength(o); k++) {
                    join(all, Array.get(o, k));
                }
                continue;
            }
            for (Field f : o.getClass().getDeclaredFields()) {
                if (!Modifier.isStatic(f.getModifiers())) {
                    elements++;
                    f.setAccessible(true);
                    join(all, f.getType().isPrimitive() ? null : f.get(o));
                }
            }
        }
        return elements;
    }

    private static void join(List<Object> all, Object o) {
        boolean met = o == null;
        for (int i = 0; i < all.size() && !met; i++) {
            met = all.get(i) == o;
        }
        if (!met) {
            all.add(o);
        }
    }

    private static void room() throws Exception {
        List<Object> all = new ArrayList<>();
        all.add(new GraveOrder());
        int elements = elementsOf(all);
        if (all.size() > MOST_MADE || elements > MOST_ELEMENTS) {
            fail("an object has " + all.size() + " objects and arrays, " + elements + " fields and elements");
        }
    }

    public static void main(String[] args) throws Exception {
        methods();
        fields();
        classes();
        source();
        room();
        System.out.println(wrong == 0 ? "the face is as due" : wrong + " faults of the face");
        if (wrong != 0) {
            System.exit(1);
        }
    }
}
