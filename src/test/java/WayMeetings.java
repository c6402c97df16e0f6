import java.util.ArrayList;
import java.util.List;

/** What BY, LONGEST, HEAD and REACHED tell is rung as a TOUCH, and the ROWS must say the same. */
final class WayMeetings extends BoundaryNumbers {
    private static final int MOST_CALLS = 512;
    /** MANY, METHOD, BOB, SINGLE; an empty text: as at first. */
    private static final String[][] SETTINGS = {
        {"4", "x14x14,12", "", ""}, {"4", "x14x14,12", "34", ""}, {"4", "x", "", ""}, {"4", "12", "34", "x"}, {"4", "1234", "", ""},
        {"4", "x14", "12", "34"}, {"5", "5.1.5.1.5,125", "", ""}, {"5", "5.1", "", ""}, {"5", "5.1", "3", "123"}, {"5", "3.1.5", "145", "5"},
        {"6", "x16x16x16,12", "", ""}, {"6", "x", "", ""}, {"6", "xx", "", ""}};
    /** METHODS of 40 CHANGES, of which five LEADS are TRUE and come round; of eight BELLS not all ROWS are tried. */
    private static final String[][] LONG_SETTINGS = {
        {"8", States.BOBS_AND_SINGLES_OF_EIGHT, "", ""}, {"8", States.FIVE_PLAIN_LEADS_OF_EIGHT, "", ""},
        {"8", States.FORTY_CHANGES_OF_EIGHT, "", ""}, {"8", States.TRUE_OF_EIGHT, "18", "123458"}};

    /** Each ROW's BY as a TOUCH ends with it, no TOUCH ahead of it does, and as many ROWS come as are REACHED. */
    static void by_isTheFirstOfTheShortestTouches() {
        Boundary.sentence("Terms", "BY of a ROW: the fewest LEADS, of all three letters, at the end of which from ROUNDS on it comes (ROUNDS: 0);"
            + " of such the first");
        for (String[] setting : SETTINGS) {
            List<String> rows = allRows(Integer.parseInt(setting[0]));
            int come = 0;
            Tower x = ready(setting);
            int reached = x.ask("reached(7)");
            for (String row : rows) {
                x = roomFor(x, 40, setting);
                String word = wordOf(x, "by(" + row + ", ");
                come += word == null ? 0 : 1;
                String first = firstWord(x, row);
                Boundary.holds(word == null ? first == null : word.equals(first), row + " comes by " + first + ", told is " + word);
                x = roomFor(x, 40, setting);
                endsWith(x, word, row);
            }
            Boundary.holds(come == reached, come + " ROWS come, told are " + reached + " of " + String.join(" ", setting));
        }
    }

    /** Of all TOUCHES of up to n LEADS, each rung, the one that is told. */
    static void longest_isTheFirstOfTheLongestTouches() {
        Boundary.sentence("Terms", "LONGEST of n: of all TOUCHES of 1 to n LEADS that are TRUE and COME ROUND at their last ROW those with most CHANGES");
        for (String[] setting : allSettings()) {
            String[] best = longestByRinging(setting);
            Tower x = ready(setting);
            int changes = x.ask("count(1)");
            for (int n = 1; n <= 5; n++) {
                String told = wordOf(x, "longest(" + n + ", ");
                Boundary.holds(told == null ? best[n] == null : told.equals(best[n]), n + " of " + String.join(" ", setting) + ": " + told + ", " + best[n]);
                x.due("longest(" + n + ", -1)", told == null ? NONE : told.length() * changes);
            }
        }
    }

    static void head_isTheRowAtTheEndOfOneLead() {
        Boundary.sentence("Terms", "The HEAD of a letter: the ROW that a LEAD of it makes of ROUNDS.");
        for (String[] setting : allSettings()) {
            for (int letter = 0; letter < 3; letter++) {
                Tower x = ready(setting);
                int changes = x.ask("count(1)");
                int leads = x.ask("head(" + letter + ", 1)");
                x.touch("pbs".substring(letter, letter + 1).repeat(leads)).due("row(" + changes + ")", x.ask("head(" + letter + ", 0)"));
                for (int end = 0; end <= leads; end++) {
                    boolean round = x.ask("row(" + end * changes + ")") == x.ask("row(0)");
                    Boundary.holds(round == (end == 0 || end == leads), "ROUNDS behind " + end + " of " + leads + " LEADS " + letter);
                }
                x.due("reached(" + (1 << letter) + ")", leads);
            }
        }
    }

    /** Each ROW of TOUCHES of these letters is one that is REACHED: with more letters there are no fewer, and ROUNDS is always one. */
    static void reached_growsWithTheLetters() {
        Boundary.sentence("Promise 15", "How many ROWS are REACHED by a set of letters, 1 to 7 (bit 0 p, bit 1 b, bit 2 s).");
        for (String[] setting : SETTINGS) {
            Tower x = ready(setting);
            for (int letters = 1; letters <= 7; letters++) {
                Boundary.holds(x.ask("reached(" + letters + ")") == reachedByTrying(x, letters), letters + " of " + String.join(" ", setting));
            }
        }
    }

    /** A LEAD that begins with a FALSE HEAD has a PLAIN ROW, one that begins with another ROW with BELL 1 at PLACE 1 has none. */
    static void falseHead_isFalseAgainstThePlainLead() {
        Boundary.sentence("Terms", "A FALSE HEAD: a ROW with BELL 1 at PLACE 1 by which ANOTHER LEAD has one of the PLAIN ROWS (ROUNDS is one).");
        for (String[] setting : SETTINGS) {
            Tower x = ready(setting).touch("p");
            List<String> plain = new ArrayList<>();
            for (int i = 0; i < x.ask("count(1)"); i++) {
                plain.add("" + x.ask("row(" + i + ")"));
            }
            int told = 0;
            for (String row : allRows(Integer.parseInt(setting[0]))) {
                boolean isFalse = row.startsWith("1") && plain.stream().anyMatch(one -> plain.contains(through(row, one)));
                if (isFalse) {
                    x.due("falseHead(" + told + ")", Integer.parseInt(row));
                    told++;
                }
            }
            x.due("falseHead(-1)", told).due("falseHead(" + told + ")", NONE);
        }
    }

    /** The sets that change() tells, written as texts again, are the same METHOD. */
    static void change_writtenAgainIsTheSameMethod() {
        Boundary.sentence("Promise 9", "the set of PLACES at which BELLS stay");
        for (String[] setting : SETTINGS) {
            Tower x = ready(setting);
            int changes = x.ask("count(1)");
            int[] sets = new int[changes];
            StringBuilder text = new StringBuilder();
            for (int i = 0; i < changes; i++) {
                sets[i] = x.ask("change(" + i + ")");
                text.append(i > 0 && sets[i] != 0 && sets[i - 1] != 0 ? "." : "").append(textOf(sets[i]));
            }
            int head = x.ask("head(0, 0)");
            x.onlyPad(text.toString()).due("method()", changes).due("head(0, 0)", head);
            for (int i = 0; i < changes; i++) {
                x.due("change(" + i + ")", sets[i]);
            }
        }
    }

    // ---- what the tests above share

    private static List<String[]> allSettings() {
        List<String[]> all = new ArrayList<>(List.of(SETTINGS));
        all.addAll(List.of(LONG_SETTINGS));
        return all;
    }

    private static Tower ready(String[] setting) {
        Tower x = new Tower().bells(Integer.parseInt(setting[0]));
        x = setting[2].isEmpty() ? x : x.bob(setting[2]);
        x = setting[3].isEmpty() ? x : x.single(setting[3]);
        return x.method(setting[1]);
    }

    private static Tower roomFor(Tower x, int calls, String[] setting) {
        return x.callsDone() + calls > MOST_CALLS ? ready(setting) : x;
    }

    /** The letters that a call tells one by one; null: there are none, and it answered NONE. */
    private static String wordOf(Tower x, String callUpToI) {
        if (x.ask(callUpToI + "-1)") == NONE) {
            x.due(callUpToI + "0)", NONE);
            return null;
        }
        StringBuilder word = new StringBuilder();
        int letter = x.ask(callUpToI + "0)");
        while (letter != NONE && word.length() < 40) {
            word.append("pbs".charAt(letter));
            letter = x.ask(callUpToI + word.length() + ")");
        }
        return word.toString();
    }

    private static void endsWith(Tower x, String word, String row) {
        if (word != null && !word.isEmpty()) {
            x.touch(word).due("row(" + word.length() * x.ask("count(1)") + ")", Integer.parseInt(row));
            x.due("by(" + row + ", -1)", word.length());
        }
    }

    /** The first of the shortest words that bring a ROW, by the HEADS alone: shorter words first, of as many letters p ahead of b ahead of s. */
    private static String firstWord(Tower x, String row) {
        String[] heads = headsOf(x);
        List<String> words = new ArrayList<>(List.of(""));
        List<String> ends = new ArrayList<>(List.of("12345678".substring(0, row.length())));
        for (int at = 0; at < words.size(); at++) {
            if (ends.get(at).equals(row)) {
                return words.get(at);
            }
            for (int letter = 0; letter < 3; letter++) {
                String end = through(ends.get(at), heads[letter]);
                // a word that ends with a ROW which has come already begins none of the first
                if (!ends.contains(end)) {
                    words.add(words.get(at) + "pbs".charAt(letter));
                    ends.add(end);
                }
            }
        }
        return null;
    }

    private static String[] headsOf(Tower x) {
        return new String[] {"" + x.ask("head(0, 0)"), "" + x.ask("head(1, 0)"), "" + x.ask("head(2, 0)")};
    }

    private static int reachedByTrying(Tower x, int letters) {
        String[] heads = headsOf(x);
        List<String> rows = new ArrayList<>(List.of("12345678".substring(0, heads[0].length())));
        for (int at = 0; at < rows.size(); at++) {
            for (int letter = 0; letter < 3; letter++) {
                String row = through(rows.get(at), heads[letter]);
                if ((letters >> letter & 1) == 1 && !rows.contains(row)) {
                    rows.add(row);
                }
            }
        }
        return rows.size();
    }

    /** What a LEAD whose HEAD is the second ROW makes of the first one. */
    private static String through(String row, String head) {
        StringBuilder made = new StringBuilder();
        for (char bell : head.toCharArray()) {
            made.append(row.charAt(bell - '1'));
        }
        return made.toString();
    }

    private static List<String> allRows(int many) {
        List<String> rows = new ArrayList<>(List.of(""));
        for (int place = 1; place <= many; place++) {
            List<String> longer = new ArrayList<>();
            for (String row : rows) {
                for (int bell = 1; bell <= many; bell++) {
                    if (row.indexOf('0' + bell) < 0) {
                        longer.add(row + bell);
                    }
                }
            }
            rows = longer;
        }
        return rows;
    }

    /** At n the longest TOUCH of up to n LEADS, by ringing all 363 of them, the first of each length first. */
    private static String[] longestByRinging(String[] setting) {
        String[] best = new String[6];
        List<String> words = new ArrayList<>(List.of(""));
        Tower x = ready(setting);
        for (int at = 0; at < words.size(); at++) {
            String word = words.get(at);
            x = roomFor(x, 12, setting);
            if (!word.isEmpty() && x.touch(word).ask("told(1)") == 1 && x.ask("told(4)") == x.ask("told(0)")) {
                best[word.length()] = best[word.length()] == null ? word : best[word.length()];
            }
            for (int letter = 0; letter < 3 && word.length() < 5; letter++) {
                words.add(word + "pbs".charAt(letter));
            }
        }
        for (int n = 2; n <= 5; n++) {
            best[n] = best[n] == null ? best[n - 1] : best[n];
        }
        return best;
    }

    private static String textOf(int set) {
        StringBuilder text = new StringBuilder();
        for (int place = 1; place <= 8; place++) {
            text.append((set >> place & 1) == 1 ? "" + place : "");
        }
        return set == 0 ? "x" : text.toString();
    }
}
