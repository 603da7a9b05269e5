import java.io.IOException;
import java.lang.management.ManagementFactory;
import java.lang.reflect.Constructor;
import java.lang.reflect.Field;
import java.lang.reflect.InvocationTargetException;
import java.lang.reflect.Method;
import java.lang.reflect.Modifier;
import java.nio.file.Files;
import java.nio.file.Path;
import java.util.Arrays;
import java.util.List;
import java.util.Random;
import java.util.Set;
import java.util.TreeSet;
import java.util.regex.Matcher;
import java.util.regex.Pattern;

/** What LANGUAGE.md and the task ask of the class: its face, its words, that no call throws, that none makes objects. */
public final class LanguageTest {
    private static final String FACE =
        "int type(int,int);int wipe(int);int undo(int);int fault(int);int figure(int,int);int cue(int,int);"
        + "int picture(int);int lamp(int);int flicker(int);int back();int read(int);int light(int,int);"
        + "int covers(int,int);int at(int,int,int);int screen(int,int);int shown(int);int touched(int);int darkest();"
        + "int hang(int,int,int);int shift(int,int);int more(int);int leave(int,int);int seen(int,int,int);int forget();"
        + "int never();int was(int,int);int ask(int);long stumble(int,int,int,int);int play(int,int,int);"
        + "int sheet(int,int,int);int lose(int);int lay(int,int,int,int);int get(int,int,int);"
        + "int copy(int,int,int,int,int);int write(int,int);int count(int);long digest()";
    private static final String[] FORBIDDEN = {
        "\\bthrow\\b", "\\bthrows\\b", "\\btry\\b", "\\bcatch\\b", "\\bsynchronized\\b", "\\bassert\\b", "\\bimport\\b",
        "\\bpackage\\b", "->", "::", "\\w+Exact\\b", "\\bhashCode\\b", "\\btoString\\b", "\\bMIN_VALUE\\b", "\\bMAX_VALUE\\b",
        "\\bSystem\\.(?!arraycopy\\b)", "\\bThread\\b", "\\bRandom\\b", "\\bObject\\b", "\\bstatic\\s*\\{", "\\bprotected\\b"};

    private static final Pattern LIBRARY_CALL = Pattern.compile(
            "\\b(Integer|Long|Math|System|Arrays|List|String|Character|Byte|Short)\\.(\\w+)");
    private static final Set<String> LIBRARY = Set.of(
            "Integer.compare", "Integer.max", "Integer.min", "Integer.bitCount",
            "Long.compare", "Long.max", "Long.min", "Long.bitCount",
            "Math.max", "Math.min", "Math.abs", "Math.floorDiv", "Math.floorMod",
            "System.arraycopy", "Arrays.copyOf", "Arrays.copyOfRange", "Arrays.fill", "List.of");
    private static final int MOST_CLASSES = 12, MOST_FIELDS = 20, MOST_PARAMETERS = 7;

    private static int wrong = 0;

    public static void main(String[] args) throws Exception {
        face();
        shape();
        words(args.length > 0 ? args[0] : "src/main/java/ShadowTheatre.java");
        noCallThrows();
        noCallMakesObjects();
        System.out.println(wrong == 0 ? "the class keeps to the language" : wrong + " faults of language");
        if (wrong != 0) System.exit(1);
    }

    private static void fault(String what) {
        wrong++;
        System.out.println(what);
    }

    private static void face() {
        Set<String> want = new TreeSet<>(Arrays.asList(FACE.split(";")));
        Set<String> got = new TreeSet<>();
        for (Method m : ShadowTheatre.class.getDeclaredMethods()) {
            if (m.isSynthetic()) continue;
            if (Modifier.isPrivate(m.getModifiers())) continue;
            StringBuilder types = new StringBuilder();
            for (Class<?> t : m.getParameterTypes()) types.append(types.length() == 0 ? "" : ",").append(t);
            got.add(m.getReturnType() + " " + m.getName() + "(" + types + ")");
            if (m.getModifiers() != Modifier.PUBLIC) fault(m + " is not plainly public");
        }
        if (!got.equals(want)) fault("the face is " + got);
        Set<String> constants = new TreeSet<>();
        for (Field f : ShadowTheatre.class.getDeclaredFields()) {
            if (!Modifier.isPrivate(f.getModifiers())) constants.add(f.toString());
        }
        Set<String> due = new TreeSet<>();
        for (String name : List.of("NONE", "BAD", "NOT", "FULL")) due.add("public static final int ShadowTheatre." + name);
        if (!constants.equals(due)) fault("the constants are " + constants);
        Constructor<?>[] all = ShadowTheatre.class.getDeclaredConstructors();
        if (all.length != 1 || all[0].getModifiers() != Modifier.PUBLIC || all[0].getParameterCount() != 0) fault("constructors");
        for (Class<?> c : ShadowTheatre.class.getDeclaredClasses()) {
            boolean well = Modifier.isStatic(c.getModifiers()) && !Modifier.isPublic(c.getModifiers());
            if (!well) fault("not static, or public: " + c);
        }
        if (ShadowTheatre.class.getModifiers() != (Modifier.PUBLIC | Modifier.FINAL)) fault("the class is not public and final");
    }

    /** How many classes, fields and parameters there are; that what is static never changes. */
    private static void shape() {
        Class<?>[] inside = ShadowTheatre.class.getDeclaredClasses();
        if (inside.length + 1 > MOST_CLASSES) fault("classes: " + (inside.length + 1));
        shapeOf(ShadowTheatre.class);
        for (Class<?> c : inside) shapeOf(c);
    }

    private static void shapeOf(Class<?> c) {
        int fields = 0;
        for (Field f : c.getDeclaredFields()) {
            boolean isStatic = Modifier.isStatic(f.getModifiers());
            if (!isStatic) fields++;
            boolean constant = Modifier.isFinal(f.getModifiers()) && f.getType().isPrimitive();
            if (isStatic && !constant) fault("static and no constant: " + f);
        }
        if (fields > MOST_FIELDS) fault(fields + " fields in " + c);
        for (Method m : c.getDeclaredMethods()) {
            if (m.getParameterCount() > MOST_PARAMETERS) fault("too many parameters: " + m);
            boolean hidden = Modifier.isPrivate(m.getModifiers());
            if (hidden && FACE.matches(".*\\b" + m.getName() + "\\(.*")) fault("private and public: " + m);
        }
    }

    private static void words(String file) throws IOException {
        String source = Files.readString(Path.of(file));
        String code = source.replaceAll("(?s)/\\*.*?\\*/", " ").replaceAll("//[^\n]*", " ")
                .replaceAll("\"(\\\\.|[^\"\\\\])*\"", "\"\"").replaceAll("'(\\\\.|[^'\\\\])'", "' '");
        for (String word : FORBIDDEN) {
            Matcher m = Pattern.compile(word).matcher(code);
            if (m.find()) fault("LANGUAGE.md forbids " + m.group());
        }
        for (Matcher m = LIBRARY_CALL.matcher(code); m.find();) {
            if (!LIBRARY.contains(m.group())) fault("not in the library of LANGUAGE.md: " + m.group());
        }
        if (source.chars().anyMatch(c -> c > 126)) fault("a sign above 126");
        methodsAreShort(code.split("\n"));
    }

    private static void methodsAreShort(String[] lines) {
        Pattern head = Pattern.compile("( {4}| {8})\\w[\\w\\[\\]]*( [\\w\\[\\]]+)*\\(.*\\) \\{ *");
        for (int i = 0; i < lines.length; i++) {
            Matcher m = head.matcher(lines[i]);
            if (!m.matches()) continue;
            int end = i;
            while (end < lines.length && !lines[end].stripTrailing().equals(m.group(1) + "}")) end++;
            if (end - i >= 60) fault("a long method at line " + (i + 1));
        }
    }

    /** Every method with every kind of argument, in many states. */
    private static void noCallThrows() throws Exception {
        int[] odd = {Integer.MIN_VALUE, -3, -2, -1, 0, 1, 2, 3, 4, 5, 7, 8, 9, 10, 16, 17, 19, 20, 21, 31, 32, 33, 35, 46, 59,
            60, 61, 97, 103, 107, 114, 255, 256, 1 << 30, Integer.MAX_VALUE - 1, Integer.MAX_VALUE};
        Random lots = new Random(5);
        Method[] methods = Arrays.stream(ShadowTheatre.class.getDeclaredMethods())
                .filter(m -> Modifier.isPublic(m.getModifiers())).toArray(Method[]::new);
        for (int run = 0; run < 60; run++) {
            ShadowTheatre x = new ShadowTheatre();
            for (char b : "116k##;820r#.#;830g######;100b#".toCharArray()) x.type(0, b);
            for (char b : "arblcfdbhlardldl".toCharArray()) x.type(1, b);
            for (char b : "....74..0".toCharArray()) x.type(2, b);
            for (int s = 0; s < 3; s++) x.sheet(s, lots.nextInt(3), lots.nextInt(61));
            for (int call = 0; call < 440; call++) {
                Method m = methods[lots.nextInt(methods.length)];
                Object[] arguments = new Object[m.getParameterCount()];
                for (int i = 0; i < arguments.length; i++) {
                    arguments[i] = lots.nextBoolean() ? lots.nextInt(5) : odd[lots.nextInt(odd.length)];
                }
                try {
                    m.invoke(x, arguments);
                } catch (InvocationTargetException e) {
                    fault(m.getName() + Arrays.toString(arguments) + " threw " + e.getCause());
                }
            }
        }
    }

    /** All calls of one run live in one room, so rows are made by constructors alone. */
    private static void noCallMakesObjects() {
        ShadowTheatre x = new ShadowTheatre();
        x.digest();
        com.sun.management.ThreadMXBean bean = (com.sun.management.ThreadMXBean) ManagementFactory.getThreadMXBean();
        long thread = Thread.currentThread().getId();
        bean.getThreadAllocatedBytes(thread);
        long before = bean.getThreadAllocatedBytes(thread);
        String figures = "116k##;820r#.#;830g######;100b#";
        for (int i = 0; i < figures.length(); i++) x.type(0, figures.charAt(i));
        for (int i = 0; i < 40; i++) x.type(1, "arblcfdb".charAt(i % 8));
        for (int i = 0; i < 32; i++) x.type(2, '0' + i % 7);
        for (int i = 0; i < 60; i++) {
            x.sheet(0, 2, 60);
            x.write(9, 0);
            x.copy(0, 0, 0, 1, 30);
            x.read(0);
            x.seen(i % 20, i % 32, 7);
            x.stumble(5, 9, 19, 0);
            x.digest();
        }
        long made = bean.getThreadAllocatedBytes(thread) - before;
        if (made > 20000) fault("calls made objects of " + made + " bytes");
    }
}
