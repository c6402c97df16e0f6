import java.util.ArrayList;
import java.util.HashMap;
import java.util.HashSet;
import java.util.LinkedHashMap;
import java.util.List;
import java.util.Map;
import java.util.Random;
import java.util.Set;
import java.util.TreeSet;

/** Runs of calls by fixed seeds: the class against a slow model that follows the document word by word. */
public final class ModelTest {
    private static final int RUNS = 240;
    private static final int CALLS = 512;

    public static void main(String[] args) {
        int first = args.length > 0 ? Integer.parseInt(args[0]) : 1;
        int runs = args.length > 1 ? Integer.parseInt(args[1]) : RUNS;
        int wrong = 0;
        long calls = 0;
        Map<String, Integer> answers = new HashMap<>();
        for (int seed = first; seed < first + runs; seed++) {
            Run run = new Run(seed, answers);
            if (!run.agrees()) {
                wrong++;
            }
            calls += run.done;
        }
        for (String must : MUST_COME) {
            if (runs >= RUNS && answers.getOrDefault(must, 0) == 0) {
                wrong++;
                System.out.println("no run came to " + must);
            }
        }
        System.out.println(wrong == 0 ? calls + " calls agree with the model" : wrong + " are wrong");
        if (wrong != 0) {
            System.exit(1);
        }
    }

    /** That the runs really come to what is seldom. */
    private static final String[] MUST_COME = {
        "say -4", "method -7", "method -4", "method +", "call -7", "call +", "touch -7", "touch +", "fault -6", "fault +",
        "row -3", "row -6", "row +", "told -6", "told +", "bell -1", "bell -2", "bell -3", "bell -6", "bell +",
        "head -2", "head -3", "head +", "falseHead -6", "falseHead +", "reached -3", "reached +", "by -2", "by -3",
        "by -6", "by +", "longest -6", "longest -2", "longest +", "restore -3", "restore +", "change -6", "change +"};

    private static final class Run {
        private final int seed;
        private final Random random;
        private final BellTouches x = new BellTouches();
        private final Model model = new Model();
        private final Map<String, Integer> answers;
        private final StringBuilder story = new StringBuilder();
        private boolean agreed = true;
        private int done = 0;

        Run(int seed, Map<String, Integer> answers) {
            this.seed = seed;
            this.random = new Random(seed);
            this.answers = answers;
        }

        boolean agrees() {
            if (random.nextInt(4) != 0) {
                // eight BELLS are dear for the model
                int many = seed % 12 == 0 ? 8 : 4 + random.nextInt(4);
                take("bells", many, 0, 0);
            }
            while (agreed && done < CALLS) {
                step();
            }
            return agreed;
        }

        private void step() {
            int kind = random.nextInt(100);
            if (kind < 6) {
                text(methodText(), 0);
            } else if (kind < 9) {
                text(changeText(), 1);
            } else if (kind < 14) {
                text(touchText(), 2);
            } else if (kind < 16) {
                take("say", random.nextInt(6) == 0 ? number() : 33 + random.nextInt(94), 0, 0);
            } else if (kind == 16 && random.nextInt(3) == 0) {
                take("bells", random.nextInt(9) == 0 ? number() : 3 + random.nextInt(5), 0, 0);
            } else if (kind < 19) {
                take(random.nextBoolean() ? "image" : "restore", random.nextInt(7) == 0 ? number() : random.nextInt(2), 0, 0);
            } else {
                ask();
            }
        }

        private void ask() {
            int rows = model.rows().size();
            switch (random.nextInt(15)) {
                case 0: take("change", small(-4, model.changes.size() + 2), 0, 0); break;
                case 1: case 2: take("row", small(-2, rows + 2), 0, 0); break;
                case 3: case 4: take("told", small(-1, 8), 0, 0); break;
                case 5: case 6: take("bell", small(0, model.many + 2), small(-2, rows + 2), small(-1, 5)); break;
                case 7: take("head", small(-1, 4), small(-1, 3), 0); break;
                case 8: case 9: take("falseHead", small(-3, 5), 0, 0); break;
                case 10: take("reached", small(-1, 9), 0, 0); break;
                case 11: case 12: take("by", rowNumber(), small(-3, 9), 0); break;
                case 13: take("longest", small(0, 7), small(-3, 6), 0); break;
                default: take("count", small(-1, 6), 0, 0); break;
            }
        }

        private int small(int from, int beyond) {
            return random.nextInt(25) == 0 ? number() : from + random.nextInt(beyond - from);
        }

        private int number() {
            switch (random.nextInt(4)) {
                case 0: return random.nextInt();
                case 1: return random.nextBoolean() ? Integer.MIN_VALUE : Integer.MAX_VALUE;
                default: return random.nextInt(140) - 10;
            }
        }

        private int rowNumber() {
            if (random.nextInt(10) == 0) {
                return number();
            }
            String row = model.rounds();
            StringBuilder shuffled = new StringBuilder();
            boolean firstStays = random.nextBoolean();
            List<Character> bells = new ArrayList<>();
            for (int i = firstStays ? 1 : 0; i < row.length(); i++) {
                bells.add(random.nextInt(bells.size() + 1), row.charAt(i));
            }
            bells.forEach(shuffled::append);
            String text = (firstStays ? "1" : "") + shuffled;
            if (random.nextInt(12) == 0) {
                text = random.nextBoolean() ? text.substring(1) : text + (1 + random.nextInt(9));
            }
            return Integer.parseInt(text);
        }

        private void text(String text, int how) {
            if (random.nextInt(5) != 0) {
                take("wipe", 0, 0, 0);
            }
            for (int i = 0; i < text.length(); i++) {
                char sign = random.nextInt(150) == 0 ? (char) (33 + random.nextInt(94)) : text.charAt(i);
                take("say", sign, 0, 0);
            }
            take("fault", small(-1, 4), 0, 0);
            take("fault", how, 0, 0);
            if (how == 0) {
                take("method", 0, 0, 0);
            } else if (how == 1) {
                take("call", small(0, 2), 0, 0);
            } else {
                take("touch", 0, 0, 0);
            }
        }

        private String changeText() {
            List<String> texts = new ArrayList<>(Model.changeTexts(model.many).keySet());
            if (model.many % 2 == 0 && random.nextInt(3) == 0) {
                return "x";
            }
            String text = texts.get(random.nextInt(texts.size()));
            return random.nextInt(20) == 0 ? text.substring(1) : text;
        }

        private String methodText() {
            if (random.nextInt(8) == 0) {
                // about 40 CHANGES
                String one = model.many % 2 == 0 ? "x" : "1.";
                String last = model.many % 2 == 0 ? "x" : "1";
                return one.repeat(17 + random.nextInt(4)) + last + "," + one.repeat(random.nextInt(2)) + last;
            }
            StringBuilder text = new StringBuilder(block(1 + random.nextInt(random.nextInt(3) == 0 ? 24 : 6)));
            if (random.nextBoolean()) {
                text.append(',').append(block(1 + random.nextInt(random.nextInt(3) == 0 ? 4 : 1)));
            }
            int most = random.nextInt(4) == 0 ? 45 : 40;
            return text.length() > most ? text.substring(0, most) : text.toString();
        }

        private String block(int changes) {
            StringBuilder text = new StringBuilder();
            String again = changeText();
            boolean before = false;
            for (int i = 0; i < changes; i++) {
                String next = random.nextInt(3) == 0 ? again : changeText();
                boolean figures = !next.equals("x");
                text.append(figures && before || random.nextInt(60) == 0 ? "." : "").append(next);
                before = figures;
            }
            return text.toString();
        }

        private String touchText() {
            int leads = 1 + random.nextInt(random.nextInt(4) == 0 ? 44 : 7);
            String letters = random.nextBoolean() ? "p" : random.nextBoolean() ? "pb" : "pbs";
            StringBuilder text = new StringBuilder();
            for (int i = 0; i < leads; i++) {
                text.append(letters.charAt(random.nextInt(letters.length())));
            }
            return text.toString();
        }

        private void take(String name, int a, int b, int c) {
            if (!agreed || done >= CALLS) {
                return;
            }
            done++;
            int got = answer(name, a, b, c);
            int want = model.answer(name, a, b, c);
            story.append(name).append('(').append(a).append(", ").append(b).append(", ").append(c).append(") ").append(got).append('\n');
            answers.merge(name + " " + (want < 0 ? "" + want : "+"), 1, Integer::sum);
            if (got != want) {
                agreed = false;
                System.out.println("seed " + seed + ":\n" + story + "due is " + want);
            }
        }

        private int answer(String name, int a, int b, int c) {
            switch (name) {
                case "bells": return x.bells(a);
                case "say": return x.say(a);
                case "wipe": return x.wipe();
                case "fault": return x.fault(a);
                case "method": return x.method();
                case "call": return x.call(a);
                case "touch": return x.touch();
                case "change": return x.change(a);
                case "row": return x.row(a);
                case "told": return x.told(a);
                case "bell": return x.bell(a, b, c);
                case "head": return x.head(a, b);
                case "falseHead": return x.falseHead(a);
                case "reached": return x.reached(a);
                case "by": return x.by(a, b);
                case "longest": return x.longest(a, b);
                case "image": return x.image(a);
                case "restore": return x.restore(a);
                case "count": return x.count(a);
                default: throw new IllegalStateException(name);
            }
        }
    }

    /** ROWS are texts of figures, CHANGES are sets of PLACES, and all is sought by trying. */
    private static final class Model {
        private static final int UNKNOWN = -1, OUTSIDE = -2, STATE = -3, FULL = -4, NONE = -6, FAULT = -7;
        private static final Map<Integer, Map<String, Set<Integer>>> CHANGE_TEXTS = new HashMap<>();

        private int many = 6;
        private List<Set<Integer>> changes = List.of();
        private Set<Integer> bob = Set.of(1, 4);
        private Set<Integer> single = Set.of(1, 2, 3, 4);
        private String touch = "";
        private String pad = "";
        private final Object[][] images = new Object[2][];

        private Map<String, Object> memory = new HashMap<>();

        int answer(String name, int a, int b, int c) {
            switch (name) {
                case "bells": return bells(a);
                case "say": return say(a);
                case "wipe": return emptyPad(pad.length());
                case "fault": return a < 0 || a > 2 ? OUTSIDE : fault(a);
                case "method": return method();
                case "call": return call(a);
                case "touch": return touch();
                case "change": return a == -1 ? set(bob) : a == -2 ? set(single) : a >= 0 && a < changes.size() ? set(changes.get(a)) : NONE;
                case "row": return bare() ? STATE : a >= 0 && a < rows().size() ? number(rows().get(a)) : NONE;
                case "told": return a < 0 || a > 6 ? OUTSIDE : bare() ? STATE : told(rows(), a);
                case "bell": return a < 1 || a > many ? UNKNOWN : c < 0 || c > 3 ? OUTSIDE : bare() ? STATE : bell((char) ('0' + a), b, c);
                case "head": return a < 0 || a > 2 || b < 0 || b > 1 ? OUTSIDE : changes.isEmpty() ? STATE : head("pbs".charAt(a), b);
                case "falseHead": return changes.isEmpty() ? STATE : falseHead(a);
                case "reached": return a < 1 || a > 7 ? OUTSIDE : changes.isEmpty() ? STATE : ways(a).size();
                case "by": return !allRows(many).contains("" + a) ? OUTSIDE : changes.isEmpty() ? STATE : letterOf(ways(7).get("" + a), b, false);
                case "longest": return a < 1 || a > 5 ? OUTSIDE : changes.isEmpty() ? STATE : letterOf(longest(a), b, true);
                case "image": return image(a);
                case "restore": return restore(a);
                case "count": return count(a);
                default: throw new IllegalStateException(name);
            }
        }

        private boolean bare() {
            return changes.isEmpty() || touch.isEmpty();
        }

        private int emptyPad(int answer) {
            pad = "";
            memory = new HashMap<>();
            return answer;
        }

        private int bells(int v) {
            if (v < 4 || v > 8) {
                return OUTSIDE;
            }
            int was = many;
            many = v;
            changes = List.of();
            touch = "";
            bob = new TreeSet<>(Set.of(1, 4));
            single = new TreeSet<>(Set.of(1, 2, 3, 4));
            if (v == 5 || v == 7) {
                bob.add(v);
                single.add(v);
            }
            memory = new HashMap<>();
            return was;
        }

        private int say(int sign) {
            if (sign < 33 || sign > 126) {
                return OUTSIDE;
            }
            if (pad.length() == 40) {
                return FULL;
            }
            pad += (char) sign;
            return pad.length();
        }

        private int image(int k) {
            if (k < 0 || k > 1) {
                return OUTSIDE;
            }
            images[k] = new Object[] {many, changes, bob, single, touch};
            return 1;
        }

        @SuppressWarnings("unchecked")
        private int restore(int k) {
            if (k < 0 || k > 1) {
                return OUTSIDE;
            }
            if (images[k] == null) {
                return STATE;
            }
            many = (Integer) images[k][0];
            changes = (List<Set<Integer>>) images[k][1];
            bob = (Set<Integer>) images[k][2];
            single = (Set<Integer>) images[k][3];
            touch = (String) images[k][4];
            memory = new HashMap<>();
            return 1;
        }

        private int count(int what) {
            int kept = (images[0] != null ? 1 : 0) + (images[1] != null ? 2 : 0);
            int[] counts = {many, changes.size(), touch.length(), pad.length(), kept};
            return what < 0 || what > 4 ? OUTSIDE : counts[what];
        }

        // texts

        /** All CHANGES there are, by the document's words on even numbers of PLACES between. */
        static Map<String, Set<Integer>> changeTexts(int many) {
            return CHANGE_TEXTS.computeIfAbsent(many, m -> {
                Map<String, Set<Integer>> texts = new LinkedHashMap<>();
                for (int set = 0; set < 1 << m; set++) {
                    Set<Integer> stays = new TreeSet<>();
                    StringBuilder text = new StringBuilder();
                    int gap = 0;
                    boolean even = true;
                    for (int place = 1; place <= m; place++) {
                        if ((set >> place - 1 & 1) == 1) {
                            even &= gap % 2 == 0;
                            gap = 0;
                            stays.add(place);
                            text.append(place);
                        } else {
                            gap++;
                        }
                    }
                    if (even && gap % 2 == 0) {
                        texts.put(set == 0 ? "x" : text.toString(), stays);
                    }
                }
                return texts;
            });
        }

        private int fault(int how) {
            for (int i = 0; i < pad.length(); i++) {
                if (!canBegin(pad.substring(0, i + 1), how)) {
                    return i;
                }
            }
            return isWhole(pad, how) ? NONE : pad.length();
        }

        private boolean canBegin(String text, int how) {
            if (how == 2) {
                return text.matches("[pbs]*");
            }
            if (how == 1) {
                return changeTexts(many).keySet().stream().anyMatch(c -> c.startsWith(text));
            }
            return blockCanBegin(text, null, true, new HashSet<>());
        }

        private boolean blockCanBegin(String rest, String before, boolean commaMayCome, Set<String> tried) {
            if (rest.isEmpty()) {
                return true;
            }
            if (!tried.add(rest.length() + " " + (before == null ? "" : before.equals("x") ? "x" : "1") + commaMayCome)) {
                return false;
            }
            if (before != null && commaMayCome && rest.startsWith(",") && blockCanBegin(rest.substring(1), null, false, tried)) {
                return true;
            }
            for (String c : changeTexts(many).keySet()) {
                String next = (before == null || before.equals("x") || c.equals("x") ? "" : ".") + c;
                if (next.startsWith(rest)) {
                    return true;
                }
                if (rest.startsWith(next) && blockCanBegin(rest.substring(next.length()), c, commaMayCome, tried)) {
                    return true;
                }
            }
            return false;
        }

        private boolean isWhole(String text, int how) {
            if (how == 2) {
                return text.matches("[pbs]+");
            }
            if (how == 1) {
                return changeTexts(many).containsKey(text);
            }
            return expand(text) != null;
        }

        /** The CHANGES of a METHOD; null: the text is none. */
        private List<Set<Integer>> expand(String text) {
            String[] blocks = text.split(",", -1);
            List<Set<Integer>> all = new ArrayList<>();
            for (String block : blocks) {
                List<Set<Integer>> own = blockOf(block);
                if (own == null || blocks.length > 2) {
                    return null;
                }
                all.addAll(own);
                for (int i = own.size() - 2; i >= 0 && blocks.length == 2; i--) {
                    all.add(own.get(i));
                }
            }
            return all;
        }

        private List<Set<Integer>> blockOf(String block) {
            if (block.contains("x.") || block.contains(".x")) {
                return null;
            }
            String pointed = block.replace("x", ".x.").replaceAll("\\.\\.(?=x)", ".");
            pointed = block.startsWith("x") ? pointed.substring(1) : pointed;
            pointed = block.endsWith("x") ? pointed.substring(0, pointed.length() - 1) : pointed;
            List<Set<Integer>> own = new ArrayList<>();
            for (String c : pointed.split("\\.", -1)) {
                if (!changeTexts(many).containsKey(c)) {
                    return null;
                }
                own.add(changeTexts(many).get(c));
            }
            return own;
        }

        private int method() {
            List<Set<Integer>> told = expand(pad);
            if (told == null) {
                return FAULT;
            }
            if (told.size() > 40) {
                return FULL;
            }
            changes = told;
            return emptyPad(told.size());
        }

        private int call(int which) {
            if (which < 0 || which > 1) {
                return OUTSIDE;
            }
            Set<Integer> told = changeTexts(many).get(pad);
            if (told == null) {
                return FAULT;
            }
            if (which == 0) {
                bob = told;
            } else {
                single = told;
            }
            return emptyPad(told.size());
        }

        private int touch() {
            if (!pad.matches("[pbs]+")) {
                return FAULT;
            }
            touch = pad;
            return emptyPad(touch.length());
        }

        private static int set(Set<Integer> stays) {
            int set = 0;
            for (int place : stays) {
                set += 1 << place;
            }
            return set;
        }

        // rows

        String rounds() {
            return "12345678".substring(0, many);
        }

        private static int number(String row) {
            return Integer.parseInt(row);
        }

        private static String changed(String row, Set<Integer> stays) {
            StringBuilder made = new StringBuilder();
            for (int place = 1; place <= row.length(); place++) {
                if (stays.contains(place)) {
                    made.append(row.charAt(place - 1));
                } else {
                    made.append(row.charAt(place)).append(row.charAt(place - 1));
                    place++;
                }
            }
            return made.toString();
        }

        private List<String> rung(String from, String letters) {
            List<String> rows = new ArrayList<>(List.of(from));
            for (char letter : letters.toCharArray()) {
                for (int i = 0; i < changes.size(); i++) {
                    boolean last = i == changes.size() - 1;
                    Set<Integer> stays = last && letter == 'b' ? bob : last && letter == 's' ? single : changes.get(i);
                    rows.add(changed(rows.get(rows.size() - 1), stays));
                }
            }
            return rows;
        }

        private String end(String from, char letter) {
            List<String> rows = rung(from, "" + letter);
            return rows.get(rows.size() - 1);
        }

        @SuppressWarnings("unchecked")
        List<String> rows() {
            return bare() ? List.of() : (List<String>) memory.computeIfAbsent("rows", k -> rung(rounds(), touch));
        }

        private int told(List<String> rows, int what) {
            int falseOnes = 0;
            int firstFalse = NONE;
            int round = NONE;
            int liked = 0;
            Set<String> before = new HashSet<>();
            for (int i = 1; i < rows.size(); i++) {
                String row = rows.get(i);
                if (!before.add(row)) {
                    falseOnes++;
                    firstFalse = firstFalse == NONE ? i : firstFalse;
                }
                round = round == NONE && row.equals(rows.get(0)) ? i : round;
                String end = row.substring(row.length() - 3);
                liked += "12345678".contains(end) || "87654321".contains(end) ? 1 : 0;
            }
            int[] all = {rows.size() - 1, falseOnes == 0 ? 1 : 0, falseOnes, firstFalse, round, liked, touch.length()};
            return all[what];
        }

        private int bell(char bell, int i, int what) {
            List<String> rows = rows();
            if (what == 0) {
                return i >= 0 && i < rows.size() ? rows.get(i).indexOf(bell) + 1 : NONE;
            }
            Set<Integer> places = new TreeSet<>();
            int ahead = 0;
            for (String row : rows.subList(1, rows.size())) {
                places.add(row.indexOf(bell));
                ahead += row.charAt(0) == bell ? 1 : 0;
            }
            int run = 0;
            for (int from = 0; from < rows.size(); from++) {
                int to = from;
                while (to < rows.size() && rows.get(to).indexOf(bell) == rows.get(from).indexOf(bell)) {
                    to++;
                }
                run = Math.max(run, to - from);
            }
            return what == 1 ? places.size() : what == 2 ? ahead : run;
        }

        private int head(char letter, int what) {
            String row = end(rounds(), letter);
            if (what == 0) {
                return number(row);
            }
            int leads = 1;
            while (!row.equals(rounds())) {
                row = end(row, letter);
                leads++;
            }
            return leads;
        }

        @SuppressWarnings("unchecked")
        private int falseHead(int i) {
            List<String> heads = (List<String>) memory.computeIfAbsent("falseHeads", k -> falseHeads());
            return i == -1 ? heads.size() : i >= 0 && i < heads.size() ? number(heads.get(i)) : NONE;
        }

        private List<String> falseHeads() {
            List<String> plain = rung(rounds(), "p").subList(0, changes.size());
            Set<String> plainOnes = new HashSet<>(plain);
            List<String> heads = new ArrayList<>();
            for (String head : allRows(many)) {
                if (head.charAt(0) == '1' && plain.stream().anyMatch(row -> plainOnes.contains(another(head, row)))) {
                    heads.add(head);
                }
            }
            return heads;
        }

        private static String another(String head, String plainRow) {
            StringBuilder row = new StringBuilder();
            for (char bell : plainRow.toCharArray()) {
                row.append(head.charAt(bell - '1'));
            }
            return row.toString();
        }

        private static final Map<Integer, Set<String>> ALL_ROWS = new HashMap<>();

        /** By rising NUMBERS. */
        private static Set<String> allRows(int many) {
            if (!ALL_ROWS.containsKey(many)) {
                Set<String> rows = new TreeSet<>();
                rows.add("");
                for (int place = 1; place <= many; place++) {
                    Set<String> longer = new TreeSet<>();
                    for (String row : rows) {
                        for (char bell = '1'; bell < '1' + many; bell++) {
                            if (row.indexOf(bell) < 0) {
                                longer.add(row + bell);
                            }
                        }
                    }
                    rows = longer;
                }
                ALL_ROWS.put(many, rows);
            }
            return ALL_ROWS.get(many);
        }

        // what can come

        /** To each ROW that comes the first of the shortest words of 0, 1, 2 that bring it. */
        @SuppressWarnings("unchecked")
        private Map<String, String> ways(int letters) {
            return (Map<String, String>) memory.computeIfAbsent("ways " + letters, k -> findWays(letters));
        }

        private Map<String, String> findWays(int letters) {
            String[] heads = {end(rounds(), 'p'), end(rounds(), 'b'), end(rounds(), 's')};
            Map<String, String> ways = new HashMap<>();
            ways.put(rounds(), "");
            Map<String, String> level = Map.of(rounds(), "");
            while (!level.isEmpty()) {
                Map<String, String> next = new HashMap<>();
                for (Map.Entry<String, String> way : level.entrySet()) {
                    for (int letter = 0; letter < 3; letter++) {
                        String row = another(way.getKey(), heads[letter]);
                        if ((letters >> letter & 1) == 1 && !ways.containsKey(row)) {
                            next.merge(row, way.getValue() + letter, (a, b) -> a.compareTo(b) < 0 ? a : b);
                        }
                    }
                }
                ways.putAll(next);
                level = next;
            }
            return ways;
        }

        private int letterOf(String word, int i, boolean inChanges) {
            if (word == null) {
                return NONE;
            }
            if (i == -1) {
                return inChanges ? word.length() * changes.size() : word.length();
            }
            return i >= 0 && i < word.length() ? word.charAt(i) - '0' : NONE;
        }

        private String longest(int n) {
            return (String) memory.computeIfAbsent("longest " + n, k -> new String[] {findLongest(n)}[0]);
        }

        private String findLongest(int n) {
            String best = null;
            List<String> words = new ArrayList<>(List.of(""));
            for (int at = 0; at < words.size(); at++) {
                String word = words.get(at);
                List<String> rows = rung(rounds(), word.replace('0', 'p').replace('1', 'b').replace('2', 's'));
                boolean fits = told(rows, 1) == 1 && told(rows, 4) == rows.size() - 1;
                if (fits && (best == null || word.length() > best.length())) {
                    best = word;
                }
                for (int letter = 0; letter < 3 && word.length() < n; letter++) {
                    words.add(word + letter);
                }
            }
            return best;
        }
    }
}
