import java.util.ArrayList;
import java.util.List;

/** One object under test: a call is written as a text, so that what is told of it is what was asked. */
final class Tower {
    private static final int MOST_CALLS = 512;

    private final BellTouches x = new BellTouches();
    private final StringBuilder story = new StringBuilder();
    private int calls = 0;

    int ask(String call) {
        calls++;
        if (calls > MOST_CALLS) {
            throw new IllegalStateException("nothing is promised of more than 512 calls");
        }
        int open = call.indexOf('(');
        String name = call.substring(0, open);
        int[] numbers = numbers(call.substring(open + 1, call.length() - 1));
        int answer = answer(name, numbers);
        story.append(call).append(' ').append(answer).append("; ");
        Boundary.saw(name, answer);
        for (int i = 0; i < numbers.length; i++) {
            Boundary.sawNumber(name, i, numbers[i]);
        }
        return answer;
    }

    Tower due(String call, int want) {
        int got = ask(call);
        if (got != want) {
            Boundary.wrong(call + " answered " + got + ", due is " + want + ", behind " + story);
        }
        return this;
    }

    /** The same answer is due of each. */
    Tower dueOfEach(int want, String... asked) {
        for (String call : asked) {
            due(call, want);
        }
        return this;
    }

    int callsDone() {
        return calls;
    }

    Tower bells(int many) {
        return taken("bells(" + many + ")");
    }

    /** Says signs more. */
    Tower pad(String text) {
        for (int i = 0; i < text.length(); i++) {
            taken("say(" + (int) text.charAt(i) + ")");
        }
        return this;
    }

    Tower onlyPad(String text) {
        return taken("wipe()").pad(text);
    }

    Tower method(String text) {
        return onlyPad(text).taken("method()");
    }

    Tower bob(String text) {
        return onlyPad(text).taken("call(0)");
    }

    Tower single(String text) {
        return onlyPad(text).taken("call(1)");
    }

    Tower touch(String text) {
        return onlyPad(text).due("touch()", text.length());
    }

    Tower image(int k) {
        return due("image(" + k + ")", 1);
    }

    Tower restore(int k) {
        return due("restore(" + k + ")", 1);
    }

    private Tower taken(String call) {
        int got = ask(call);
        if (got < 0) {
            Boundary.wrong(call + " was refused by " + got + ", behind " + story);
        }
        return this;
    }

    /** What calls that change nothing answer. */
    List<Integer> sight() {
        List<Integer> seen = new ArrayList<>();
        asked(seen, sightCalls());
        return seen;
    }

    static String[] sightCalls() {
        String calls = "count(0);count(1);count(2);count(3);count(4);fault(0);fault(1);fault(2)"
            + ";change(-2);change(-1);change(0);change(1);change(2);change(39);told(0);told(1);told(2);told(3);told(4);told(5);told(6)"
            + ";row(0);row(1);row(2);row(7);row(20);row(1600)";
        for (int bell = 1; bell <= 4; bell++) {
            calls += ";bell(B, 5, 0);bell(B, 0, 1);bell(B, 0, 2);bell(B, 0, 3)".replace("B", "" + bell);
        }
        calls += ";head(0, 0);head(1, 0);head(2, 0);head(0, 1);head(1, 1);head(2, 1);falseHead(-1);falseHead(0);falseHead(1)"
            + ";reached(1);reached(3);reached(7);by(1324, -1);by(13245, -1);by(132456, -1);by(1324567, -1);by(13245678, 0)"
            + ";longest(1, -1);longest(5, -1);longest(5, 0);longest(5, 4)";
        return calls.split(";");
    }

    /** What sight() can't see: the signs of THE PAD and what the IMAGES keep. All of it changes things. */
    List<Integer> lastSight() {
        List<Integer> seen = new ArrayList<>();
        asked(seen, "touch()", "method()", "call(0)", "change(-1)", "call(1)", "change(-2)", "row(3)", "head(1, 0)", "head(2, 0)");
        asked(seen, "say(112)", "fault(2)", "wipe()");
        for (int k = 0; k <= 1; k++) {
            asked(seen, "restore(" + k + ")");
            seen.addAll(sight());
        }
        return seen;
    }

    private void asked(List<Integer> seen, String... asked) {
        for (String call : asked) {
            seen.add(ask(call));
        }
    }

    private static int[] numbers(String text) {
        if (text.isEmpty()) {
            return new int[0];
        }
        String[] parts = text.split(", ");
        int[] numbers = new int[parts.length];
        for (int i = 0; i < parts.length; i++) {
            numbers[i] = number(parts[i]);
        }
        return numbers;
    }

    private static int number(String text) {
        switch (text) {
            case "MIN": return Integer.MIN_VALUE;
            case "MAX": return Integer.MAX_VALUE;
            default: return Integer.parseInt(text);
        }
    }

    private int answer(String name, int[] n) {
        switch (name + n.length) {
            case "bells1": return x.bells(n[0]);
            case "say1": return x.say(n[0]);
            case "wipe0": return x.wipe();
            case "fault1": return x.fault(n[0]);
            case "method0": return x.method();
            case "call1": return x.call(n[0]);
            case "touch0": return x.touch();
            case "change1": return x.change(n[0]);
            case "row1": return x.row(n[0]);
            case "told1": return x.told(n[0]);
            case "bell3": return x.bell(n[0], n[1], n[2]);
            case "head2": return x.head(n[0], n[1]);
            case "falseHead1": return x.falseHead(n[0]);
            case "reached1": return x.reached(n[0]);
            case "by2": return x.by(n[0], n[1]);
            case "longest2": return x.longest(n[0], n[1]);
            case "image1": return x.image(n[0]);
            case "restore1": return x.restore(n[0]);
            case "count1": return x.count(n[0]);
            default: throw new IllegalStateException(name);
        }
    }
}
