import java.lang.management.ManagementFactory;
import java.lang.reflect.Constructor;
import java.lang.reflect.Field;
import java.lang.reflect.Method;
import java.lang.reflect.Modifier;
import java.nio.file.Files;
import java.nio.file.Path;
import java.util.Set;
import java.util.TreeSet;
import java.util.regex.Matcher;
import java.util.regex.Pattern;

/** The class's face and what LANGUAGE.md asks of the source, as far as a plain look can tell. */
public final class RulesTest {
    private static final int FACE_SIZE = 20 + 6;
    private static final String RULED_OUT = "throw|throws|try|catch|finally|synchronized|assert|import|package|double|float"
        + "|Object|Thread|Random|->|::|Exact";
    private static final Set<String> LIBRARY = Set.of("Math.min", "Math.max", "Integer.bitCount", "System.arraycopy");
    private static final int MOST_LINES_OF_A_METHOD = 60;
    private static final int MOST_BYTES_OF_A_RUN = 4_000_000;
    private static int wrong = 0;

    public static void main(String[] args) throws Exception {
        faceIsAsTold(faceOfTheDocument());
        noPrivateMethodHasAPublicName();
        String source = Files.readString(Path.of("src/main/java/BellTouches.java"));
        nothingRuledOutStands(source);
        theLibraryIsSmall(source);
        methodsAreShort(source);
        aDearRunIsSmall();
        System.out.println(wrong == 0 ? "the rules are kept" : wrong + " rules are broken");
        if (wrong != 0) {
            System.exit(1);
        }
    }

    private static void check(boolean holds, String what) {
        if (!holds) {
            wrong++;
            System.out.println(what);
        }
    }

    /** The constants with their values, the constructor and the methods, as the document writes them. */
    private static Set<String> faceOfTheDocument() throws Exception {
        String document = Files.readString(Path.of("../shared/DOC.md"));
        int from = document.indexOf("```java", document.indexOf("## The public face"));
        String face = document.substring(from, document.indexOf("\n```", from));
        Set<String> due = new TreeSet<>();
        Matcher constants = Pattern.compile("(\\w+ = -?\\d+)").matcher(face);
        while (constants.find()) {
            due.add(constants.group(1));
        }
        Matcher methods = Pattern.compile("public (?:int )?(\\w+\\([^)]*\\));").matcher(face);
        while (methods.find()) {
            due.add(methods.group(1).replaceAll("int \\w+", "int").replace(" ", ""));
        }
        check(due.size() == FACE_SIZE, "the document's face was read as " + due);
        return due;
    }

    private static void faceIsAsTold(Set<String> due) throws Exception {
        Set<String> seen = new TreeSet<>();
        for (Constructor<?> c : BellTouches.class.getDeclaredConstructors()) {
            addUnlessPrivate(seen, c.getModifiers(), "BellTouches" + parameters(c.getParameterTypes()));
        }
        for (Method m : BellTouches.class.getDeclaredMethods()) {
            addUnlessPrivate(seen, m.getModifiers(), m.getName() + parameters(m.getParameterTypes()));
            check(Modifier.isPrivate(m.getModifiers()) || m.getReturnType() == int.class, m + " answers no int");
        }
        for (Field f : BellTouches.class.getDeclaredFields()) {
            boolean constant = Modifier.isPublic(f.getModifiers()) && Modifier.isStatic(f.getModifiers()) && f.getType() == int.class;
            addUnlessPrivate(seen, f.getModifiers(), constant ? f.getName() + " = " + f.getInt(null) : f.getName());
            check(!Modifier.isStatic(f.getModifiers()) || Modifier.isFinal(f.getModifiers()), f + " isn't final");
        }
        check(seen.equals(due), "the face is " + seen + ", due is " + due);
        check(Modifier.isFinal(BellTouches.class.getModifiers()), "the class isn't final");
    }

    private static void addUnlessPrivate(Set<String> seen, int modifiers, String name) {
        if (!Modifier.isPrivate(modifiers)) {
            seen.add(name);
            check(Modifier.isPublic(modifiers), name + " isn't public");
        }
    }

    private static String parameters(Class<?>[] types) {
        StringBuilder text = new StringBuilder("(");
        for (Class<?> type : types) {
            text.append(text.length() > 1 ? "," : "").append(type.getName());
        }
        return text.append(")").toString();
    }

    private static void noPrivateMethodHasAPublicName() {
        Set<String> publicNames = new TreeSet<>();
        for (Method m : BellTouches.class.getMethods()) {
            publicNames.add(m.getName());
        }
        int classes = 1;
        for (Class<?> inside : BellTouches.class.getDeclaredClasses()) {
            classes++;
            check(Modifier.isStatic(inside.getModifiers()), inside + " isn't static");
            for (Method m : inside.getDeclaredMethods()) {
                check(!publicNames.contains(m.getName()), m + " bears a public name");
                check(m.getParameterCount() <= 7, m + " has many parameters");
            }
            fieldsAreFew(inside);
        }
        for (Method m : BellTouches.class.getDeclaredMethods()) {
            check(Modifier.isPublic(m.getModifiers()) || !publicNames.contains(m.getName()), m + " bears a public name");
        }
        fieldsAreFew(BellTouches.class);
        check(classes <= 12, "there are " + classes + " classes");
    }

    private static void fieldsAreFew(Class<?> type) {
        int fields = 0;
        for (Field f : type.getDeclaredFields()) {
            fields += Modifier.isStatic(f.getModifiers()) ? 0 : 1;
        }
        check(fields <= 20, type + " has " + fields + " fields");
    }

    private static void nothingRuledOutStands(String source) {
        String code = source.replaceAll("(?s)/\\*.*?\\*/", "").replaceAll("//[^\n]*", "");
        for (String word : RULED_OUT.split("\\|")) {
            String pattern = Character.isLetter(word.charAt(0)) ? "\\b" + word + "\\b" : Pattern.quote(word);
            check(!Pattern.compile(pattern).matcher(code).find(), word + " is ruled out");
        }
        check(!code.contains("Exact("), "a function of Math whose name ends in Exact is ruled out");
        for (int i = 0; i < source.length(); i++) {
            check(source.charAt(i) == '\n' || source.charAt(i) >= 32 && source.charAt(i) < 127, "a strange sign at " + i);
        }
    }

    /** Of the library only what LANGUAGE.md lists, and the class's own names. */
    private static void theLibraryIsSmall(String source) {
        String code = source.replaceAll("(?s)/\\*.*?\\*/", "").replaceAll("//[^\n]*", "");
        Set<String> own = new TreeSet<>();
        for (Class<?> inside : BellTouches.class.getDeclaredClasses()) {
            own.add(inside.getSimpleName());
        }
        Matcher used = Pattern.compile("\\b([A-Z][a-z]\\w*)\\.(\\w+)").matcher(code);
        while (used.find()) {
            check(own.contains(used.group(1)) || LIBRARY.contains(used.group()), used.group() + " is not looked at here");
        }
        check(!code.contains(" static {") && !code.contains("\""), "a static block or a text");
    }

    private static void methodsAreShort(String source) {
        Matcher bodies = Pattern.compile("(?m)^( {4}| {8})[a-z][^=;\n]*\\([^;\n]*\\{\n(.*\n)*?\\1}$").matcher(source);
        int seen = 0;
        while (bodies.find()) {
            seen++;
            long lines = bodies.group().lines().count();
            check(lines <= MOST_LINES_OF_A_METHOD, lines + " lines: " + bodies.group().lines().findFirst().orElse(""));
        }
        check(seen > 80, "only " + seen + " methods were seen");
    }

    /** All calls of a run live in one room, so what they allocate in all is bounded. */
    private static void aDearRunIsSmall() {
        com.sun.management.ThreadMXBean memory = (com.sun.management.ThreadMXBean) ManagementFactory.getThreadMXBean();
        dearRun();
        long before = memory.getThreadAllocatedBytes(Thread.currentThread().getId());
        dearRun();
        long bytes = memory.getThreadAllocatedBytes(Thread.currentThread().getId()) - before;
        check(bytes < MOST_BYTES_OF_A_RUN, "a dear run allocates " + bytes + " bytes");
    }

    /** About 512 calls: again and again another METHOD for other BELLS, each searched from scratch. */
    private static void dearRun() {
        BellTouches x = new BellTouches();
        for (int round = 0; round < 25; round++) {
            int many = 4 + round % 5;
            x.bells(many);
            x.say('1');
            x.say(many % 2 == 0 ? '0' + many : '2');
            x.say(many % 2 == 0 ? 'x' : '0' + many);
            x.method();
            for (int i = 0; i < 4; i++) {
                x.say("pbs".charAt((round + i) % 3));
            }
            x.touch();
            x.told(1);
            x.falseHead(-1);
            x.reached(7);
            x.reached(3);
            x.by(1234, -1);
            x.longest(5, -1);
            x.image(round % 2);
            x.restore(round % 2);
        }
    }
}
