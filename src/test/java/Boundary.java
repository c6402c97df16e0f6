import java.lang.reflect.Method;
import java.lang.reflect.Modifier;
import java.nio.file.Files;
import java.nio.file.Path;
import java.util.ArrayList;
import java.util.Comparator;
import java.util.List;
import java.util.Set;
import java.util.TreeSet;
import java.util.function.Supplier;

/** What the boundary tests share: each test names the words of the document that it holds the class to. */
final class Boundary {
    static final int UNKNOWN = -1, OUTSIDE = -2, STATE = -3, FULL = -4, NONE = -6, FAULT = -7;

    private static final String[] NAMES = {"", "UNKNOWN", "OUTSIDE", "STATE", "FULL", "", "NONE", "FAULT"};
    private static final Set<String> SEEN = new TreeSet<>();
    private static final Set<String> EXTREMES = new TreeSet<>();
    private static String document = "";
    private static String test = "";
    private static String words = "";
    private static int wrong = 0;
    private static int tests = 0;

    private Boundary() {
    }

    static void readDocument() throws Exception {
        document = Files.readString(Path.of("../shared/DOC.md"));
    }

    static int wrongOnes() {
        return wrong;
    }

    static int testsRun() {
        return tests;
    }

    static void wrong(String what) {
        wrong++;
        System.out.println(test + " [" + words + "]: " + what);
    }

    static void holds(boolean holds, String what) {
        if (!holds) {
            wrong(what);
        }
    }

    /** Every test begins with it: where the sentence stands, and its words, one after another. */
    static void sentence(String part, String... itsWords) {
        String text = textOf(part);
        words = part + ": " + String.join(" .. ", itsWords);
        for (String some : itsWords) {
            holds(text.contains(some), "the document doesn't say so there: " + some);
        }
    }

    private static String textOf(String part) {
        int from = document.indexOf("\n## " + part);
        int to = from < 0 ? -1 : document.indexOf("\n## ", from + 1);
        return from < 0 ? "" : document.substring(from, to < 0 ? document.length() : to);
    }

    /** Every static method without parameters that isn't private is a test. */
    static void runAll(Class<?> group) throws Exception {
        List<Method> methods = new ArrayList<>(List.of(group.getDeclaredMethods()));
        methods.removeIf(m -> Modifier.isPrivate(m.getModifiers()) || m.getParameterCount() > 0 || m.isSynthetic());
        methods.sort(Comparator.comparing(Method::getName));
        for (Method m : methods) {
            test = m.getName();
            words = "";
            tests++;
            m.setAccessible(true);
            m.invoke(null);
            holds(!words.isEmpty(), "the test names no sentence");
        }
    }

    static void saw(String call, int answer) {
        if (answer < 0) {
            SEEN.add(call + " " + (answer > -NAMES.length ? NAMES[-answer] : "") + " " + answer);
        }
    }

    static void sawNumber(String call, int place, int number) {
        if (number == Integer.MIN_VALUE || number == Integer.MAX_VALUE) {
            EXTREMES.add(call + " " + place + " " + number);
        }
    }

    /** Each number of each call was the smallest int once, and the largest. */
    static void extremesWereAsked() {
        test = "extremesWereAsked";
        words = "";
        for (Method m : BellTouches.class.getDeclaredMethods()) {
            for (int i = 0; Modifier.isPublic(m.getModifiers()) && i < m.getParameterCount(); i++) {
                String number = m.getName() + " " + i + " ";
                holds(EXTREMES.contains(number + Integer.MIN_VALUE), number + "was never the smallest int");
                holds(EXTREMES.contains(number + Integer.MAX_VALUE), number + "was never the largest int");
            }
        }
    }

    /** Each call was seen to answer each refusal (and NONE) that the document tells with it, and no other. */
    static void refusalsAreThoseTold(String... calls) {
        test = "refusalsAreThoseTold";
        Set<String> told = new TreeSet<>();
        for (int i = 0; i < calls.length; i++) {
            words = "Promise " + (i + 2);
            String text = textOf(words + ": " + calls[i]).replace("THE FAULT", "");
            holds(!text.isEmpty(), "there is no such promise of " + calls[i]);
            for (int code = 1; code < NAMES.length; code++) {
                if (!NAMES[code].isEmpty() && text.contains(NAMES[code])) {
                    told.add(calls[i] + " " + NAMES[code] + " " + -code);
                }
            }
        }
        holds(told.equals(SEEN), "told are " + told + ", seen were " + SEEN);
    }

    /** A refused call, and that nothing has changed behind it: by sight before and behind, and beside a twin. */
    static void changesNothing(Supplier<Tower> state, String call, int want) {
        Tower x = state.get();
        Tower twin = state.get();
        List<Integer> before = x.sight();
        x.due(call, want);
        holds(before.equals(x.sight()), call + " changed what is answered, from " + before);
        holds(x.lastSight().equals(twin.lastSight()), call + " changed THE PAD or an IMAGE");
    }

    static void changeNothing(Supplier<Tower> state, int want, String... calls) {
        for (String call : calls) {
            changesNothing(state, call, want);
        }
    }

    /** For refusals that fit in whatever state. */
    static void changeNothingAnywhere(int want, String... calls) {
        for (Supplier<Tower> state : List.<Supplier<Tower>>of(States::bare, States::onlyMethod, States::onlyTouch, States::four,
            States::seven, States::full)) {
            changeNothing(state, want, calls);
        }
    }
}
