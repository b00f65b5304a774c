import java.io.IOException;
import java.lang.reflect.Array;
import java.lang.reflect.Constructor;
import java.lang.reflect.Field;
import java.lang.reflect.Method;
import java.lang.reflect.Modifier;
import java.nio.file.Files;
import java.nio.file.Path;
import java.util.ArrayDeque;
import java.util.Collections;
import java.util.Deque;
import java.util.IdentityHashMap;
import java.util.Set;
import java.util.TreeSet;
import java.util.regex.Matcher;
import java.util.regex.Pattern;

/** What of ../shared/LANGUAGE.md and of the public face can be seen from the class and its source. */
public final class LanguageTest {
    private static final Path SOURCE = Path.of("src/main/java/DripCups.java");
    private static final Path DOCUMENT = Path.of("../shared/DOC.md");
    private static int wrong = 0;

    private static final String FACE = """
        boolean lead(int,int)
        boolean plug(int,boolean)
        boolean restore()
        int cave(int)
        int chorus(int,int)
        int cold(int,int,int)
        int count(int)
        int crack(int,int)
        int cup(int,int)
        int fallen(int,int)
        int fault()
        int feed(int,int,int,int,int)
        int flow(int,int)
        int game(int,int,int)
        int giver(int,int)
        int hear(int,int,boolean)
        int hours(int)
        int later(int,int)
        int led(int)
        int listen(int)
        int meeting(int)
        int never(int)
        int next(int)
        int nth(int,int)
        int office(int,int)
        int oftenest(int)
        int pause(int)
        int pour(int,int)
        int round()
        int sound(int,int)
        int swell(int,int)
        int then(int,int,int)
        int tier(int,int)
        int tipping(int)
        int toCrack(int,int,int,int)
        int toPour(int,int)
        int together(int)
        int undo()
        int ways(int,int)
        int years(int,int,int)
        void forget()
        void image()
        """;

    public static void main(String[] args) throws Exception {
        face();
        faceOfTheDocument();
        members();
        source();
        room();
        System.out.println(wrong + " breaches of the language seen");
        if (wrong > 0) {
            System.exit(1);
        }
    }

    private static void need(boolean is, String breach) {
        if (!is) {
            wrong++;
            System.out.println("breach: " + breach);
        }
    }

    private static void face() {
        Set<String> methods = new TreeSet<>();
        for (Method m : DripCups.class.getDeclaredMethods()) {
            if (!Modifier.isPrivate(m.getModifiers()) && !m.isSynthetic()) {
                need(Modifier.isPublic(m.getModifiers()) && !Modifier.isStatic(m.getModifiers()), "visible " + m);
                StringBuilder text = new StringBuilder();
                for (Class<?> type : m.getParameterTypes()) {
                    text.append(text.length() == 0 ? "" : ",").append(type.getName());
                }
                methods.add(m.getReturnType() + " " + m.getName() + "(" + text + ")");
            }
        }
        need(String.join("\n", methods).equals(FACE.strip()), "the face is " + methods);
        Constructor<?>[] made = DripCups.class.getDeclaredConstructors();
        need(made.length == 1 && Modifier.isPublic(made[0].getModifiers()), "constructors");
        need(Modifier.isFinal(DripCups.class.getModifiers()), "the class is not final");
    }

    /** The document's lines, with the names of what is passed and what each call may throw, stand in the source. */
    private static void faceOfTheDocument() throws IOException {
        String source = Files.readString(SOURCE).replaceAll("\\s+", " ");
        String document = Files.readString(DOCUMENT);
        int lines = 0;
        Matcher line = Pattern.compile("(?m)^    (public [^\n]*);$").matcher(document);
        while (line.find()) {
            lines++;
            boolean constant = line.group(1).contains("=");
            need(source.contains(line.group(1) + (constant ? ";" : " {")), "not as in the document: " + line.group(1));
        }
        need(lines == 44, "the document's face has " + lines + " lines");
        need(DripCups.NONE == -1, "NONE");
    }

    private static void members() {
        Set<String> open = new TreeSet<>();
        Matcher names = Pattern.compile("(\\w+)\\(").matcher(FACE);
        while (names.find()) {
            open.add(names.group(1));
        }
        for (Field f : DripCups.class.getDeclaredFields()) {
            boolean constant = Modifier.isStatic(f.getModifiers()) && Modifier.isFinal(f.getModifiers());
            need(Modifier.isPrivate(f.getModifiers()) || f.getName().equals("NONE"), "visible " + f);
            need(constant || !Modifier.isStatic(f.getModifiers()), "static " + f);
        }
        need(DripCups.class.getDeclaredClasses().length <= 12, "more than twelve classes");
        for (Class<?> inner : DripCups.class.getDeclaredClasses()) {
            need(Modifier.isStatic(inner.getModifiers()), "not static: " + inner);
            int fields = 0;
            for (Field f : inner.getDeclaredFields()) {
                fields += Modifier.isStatic(f.getModifiers()) ? 0 : 1;
            }
            need(fields <= 20, fields + " fields in " + inner);
            for (Method m : inner.getDeclaredMethods()) {
                need(!open.contains(m.getName()), "a name of the face: " + m);
            }
        }
        for (Method m : DripCups.class.getDeclaredMethods()) {
            need(!Modifier.isPrivate(m.getModifiers()) || !open.contains(m.getName()), "a name of the face: " + m);
            need(m.getParameterCount() <= 7, "parameters of " + m);
        }
    }

    private static void source() throws IOException {
        String text = Files.readString(SOURCE);
        need(text.chars().allMatch(c -> c == 10 || c >= 32 && c < 127), "signs beyond plain ones");
        String code = text.replaceAll("(?s)/\\*.*?\\*/", " ").replaceAll("//[^\n]*", " ");
        code = code.replaceAll("\"[^\"\n]*\"", "\"\"");
        String[] forbidden = {
            "->", "::", "\\btry\\b", "\\bcatch\\b", "\\bfinally\\b", "\\bsynchronized\\b", "\\bassert\\b",
            "\\bdouble\\b", "\\bfloat\\b", "Exact\\(", "\\bpackage\\b", "\\brandom\\b", "\\bnanoTime\\b",
            "System\\.(?!arraycopy)", "\\bThread\\b", "\\.(hashCode|toString|equals)\\(", "\"\"\\s*\\+",
            "\\bwhile \\(true\\)", "\\bfor \\(;;\\)", "import (?!java\\.util\\.(Arrays|NoSuchElementException);)",
            "Arrays\\.(?!fill|copyOf)", "Math\\.(?!max|min|abs)", "Integer\\.(?!bitCount)",
            "Long\\.(?!bitCount)", "throw new (?!IllegalArgumentException|NoSuchElementException)"};
        for (String pattern : forbidden) {
            Matcher found = Pattern.compile(pattern).matcher(code);
            need(!found.find(), "the source has " + pattern);
        }
        methodLengths(text);
    }

    private static void methodLengths(String text) {
        String[] lines = text.split("\n");
        int start = -1;
        String closing = "";
        for (int i = 0; i < lines.length; i++) {
            Matcher head = Pattern.compile("( {4}| {8})(?=\\S)[\\w\\[\\] ]+\\(.*\\{").matcher(lines[i]);
            if (start < 0 && head.matches()) {
                start = i;
                closing = head.group(1) + "}";
            } else if (start >= 0 && lines[i].equals(closing)) {
                need(i - start < 60, "a long method at line " + (start + 1));
                start = -1;
            }
        }
    }

    /** Counts the objects, and their fields and elements, that one new object is made of. */
    private static void room() throws IllegalAccessException {
        Set<Object> seen = Collections.newSetFromMap(new IdentityHashMap<>());
        Deque<Object> open = new ArrayDeque<>();
        open.add(new DripCups());
        int parts = 0;
        while (!open.isEmpty()) {
            Object one = open.pop();
            if (!seen.add(one)) {
                continue;
            }
            if (one.getClass().isArray()) {
                parts += Array.getLength(one);
                continue;
            }
            for (Field f : one.getClass().getDeclaredFields()) {
                if (Modifier.isStatic(f.getModifiers())) {
                    continue;
                }
                parts++;
                f.setAccessible(true);
                if (!f.getType().isPrimitive() && f.get(one) != null) {
                    open.add(f.get(one));
                }
            }
        }
        System.out.println("a new object: " + seen.size() + " objects, " + parts + " fields and elements");
        need(seen.size() <= 100 && parts <= 10000, "a new object is too large");
    }
}
