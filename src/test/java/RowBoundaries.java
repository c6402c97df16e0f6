import java.util.ArrayList;
import java.util.List;
import java.util.TreeSet;
import java.util.function.Supplier;

/** Part 2 of "Terms" and promises 10 to 14: the ROWS of a TOUCH, HEADS and FALSE HEADS. */
final class RowBoundaries extends BoundaryNumbers {
    private static final String BOB_DOUBLES = "5.1.5.1.5,125";
    private static final String FORTY_X = States.FORTY_X;
    private static final String FORTY_P = "p".repeat(40);

    // ---- the terms

    static void row0_isRounds_andAsManyChangesAsItsLeads() {
        Boundary.sentence("Terms", "ROW 0 is ROUNDS, each other one comes of the one ahead by the next CHANGE.",
            "It has as many CHANGES as its LEADS together.");
        new Tower().method("x").touch("p").due("row(0)", 123456).due("row(1)", 214365).due("row(2)", NONE).due("told(0)", 1);
        new Tower().bells(8).method(FORTY_X).touch(FORTY_P).due("told(0)", 1600).due("row(0)", 12345678).due("row(1599)", 21436587)
            .due("row(1600)", 12345678).due("row(1601)", NONE);
    }

    static void false_jFrom1ToILess1() {
        Boundary.sentence("Terms", "ROW i, i above 0, is FALSE, if some ROW j, j from 1 to i less 1, is the same.",
            "The TOUCH is TRUE, if no ROW is FALSE.");
        told("123456", "p", 1, 1, 0, NONE, 1);
        told("123456", "pp", 2, 0, 1, 2, 1);
        told("xx", "p", 2, 1, 0, NONE, 2);
        told("xx", "pp", 4, 0, 2, 3, 2);
        told("xxx", "p", 3, 0, 1, 3, 2);
        told("x16", "p", 2, 1, 0, NONE, NONE);
        told(FORTY_X, FORTY_P, 1600, 0, 1598, 3, 2);
    }

    static void comesRound_atTheLeastIAbove0() {
        Boundary.sentence("Terms", "It COMES ROUND at the least i above 0 at which ROW i is ROUNDS.");
        new Tower().method("x").touch("p").due("told(4)", NONE).touch("pp").due("told(4)", 2).touch("ppp").due("told(4)", 2)
            .touch("pppp").due("told(4)", 2);
        new Tower().method("123456").touch("p").due("told(4)", 1).touch("pp").due("told(4)", 1);
        // inside a LEAD, not only at its end
        new Tower().method("xxx").touch("p").due("told(4)", 2).due("row(3)", 214365);
    }

    static void liked_lastThreePlacesRisingOrFalling() {
        Boundary.sentence("Terms", "A ROW is LIKED, if the BELLS at its last three PLACES are three that follow one another, rising or falling");
        // all 24 ROWS of four: 4123, 1234, 1432, 4321; all 120 of five: three triples, two ways, two ROWS for each
        new Tower().bells(4).method("x14x14,12").touch("ppp").due("told(1)", 1).due("told(0)", 24).due("told(5)", 4);
        new Tower().bells(5).method(BOB_DOUBLES).touch("pppb".repeat(3)).due("told(1)", 1).due("told(0)", 120).due("told(5)", 12);
        // 768, 786, 876, and back: 786, 768, 678
        Tower eight = new Tower().bells(8).method("123458.123456.123458").touch("p").due("row(3)", 12345876).due("told(5)", 1);
        eight.touch("pp").due("row(6)", 12345678).due("told(5)", 2).due("told(3)", 4).due("told(2)", 2).due("told(4)", 6);
    }

    static void liked_row0IsNotCounted() {
        Boundary.sentence("Promise 11", "how many ROWS, from 1 on, are LIKED (5)");
        new Tower().method("x").touch("p").due("told(5)", 0).touch("pp").due("told(5)", 1);
        new Tower().method("123456").touch("p").due("told(5)", 1);
        new Tower().bells(8).method(FORTY_X).touch(FORTY_P).due("told(5)", 800);
    }

    static void head_theRowThatALeadMakesOfRounds() {
        Boundary.sentence("Terms", "The HEAD of a letter: the ROW that a LEAD of it makes of ROUNDS.");
        new Tower().bells(4).method("x").due("head(0, 0)", 2143).due("head(1, 0)", 1324).due("head(2, 0)", 1234);
        new Tower().bells(8).method(FORTY_X).due("head(0, 0)", 12345678).due("head(1, 0)", 24135678).due("head(2, 0)", 21435678);
    }

    static void plainRows_0ToKLess1() {
        Boundary.sentence("Terms", "PLAIN ROWS: ROWS 0 to k less 1 of a LEAD p from ROUNDS, k being its CHANGES.");
        falseHeadsAre(4, "14", 1234);
        falseHeadsAre(4, "14.12", 1234, 1324);
        falseHeadsAre(4, "14.12.14", 1234, 1324, 1342, 1423, 1432);
    }

    static void falseHead_bell1AtPlace1_roundsIsOne() {
        Boundary.sentence("Terms", "A FALSE HEAD: a ROW with BELL 1 at PLACE 1 by which ANOTHER LEAD has one of the PLAIN ROWS (ROUNDS is one).");
        falseHeadsAre(4, "x14", 1234);
        falseHeadsAre(4, "x14x14,12", 1234, 1324);
        falseHeadsAre(8, "12345678", 12345678);
        falseHeadsAre(8, "12345678.123456", 12345678);
        falseHeadsAre(8, "123456.12345678", 12345678, 12345687);
    }

    // ---- promise 10

    static void row_NONE_iBelow0_andBeyondTheLast() {
        Boundary.sentence("Promise 10", "NUMBER of ROW i of the TOUCH; NONE: there is none such (i below 0, too).");
        Tower x = new Tower().bells(4).method("x14").touch("pp").due("row(0)", 1234).due("row(4)", 4321);
        x.dueOfEach(NONE, "row(MIN)", "row(-2)", "row(-1)", "row(5)", "row(6)", "row(1600)", "row(1601)", "row(MAX)");
        x.touch("p").due("row(2)", 2413).due("row(3)", NONE).due("row(4)", NONE);
        Boundary.changeNothing(States::four, NONE, "row(MIN)", "row(-1)", "row(41)", "row(MAX)");
        States.full().due("row(-1)", NONE).due("row(1601)", NONE);
    }

    static void row_STATE_noMethodOrNoTouch() {
        Boundary.sentence("Promise 10", "STATE: there is no METHOD, or no TOUCH.");
        String[] calls = {"row(0)", "row(1)", "row(-1)", "row(MIN)", "row(MAX)"};
        Boundary.changeNothing(States::bare, STATE, calls);
        Boundary.changeNothing(States::onlyMethod, STATE, calls);
        Boundary.changeNothing(States::onlyTouch, STATE, calls);
        States.four().bells(4).dueOfEach(STATE, calls).touch("p").dueOfEach(STATE, calls).method("x").due("row(0)", 1234);
        // an IMAGE without a TOUCH, without a METHOD
        new Tower().method("x").image(0).touch("p").due("row(0)", 123456).restore(0).dueOfEach(STATE, calls);
        new Tower().touch("p").image(0).method("x").due("row(0)", 123456).restore(0).dueOfEach(STATE, calls);
    }

    // ---- promise 11

    static void told_OUTSIDE_what0To6() {
        Boundary.sentence("Promise 11", "how many CHANGES (what = 0)", "how many LEADS (6). OUTSIDE;");
        new Tower().method("x").touch("pp").due("told(-1)", OUTSIDE).due("told(0)", 2).due("told(6)", 2).due("told(7)", OUTSIDE);
        Boundary.changeNothingAnywhere(OUTSIDE, "told(MIN)", "told(-1)", "told(7)", "told(MAX)");
    }

    static void told_NONE_noFalseRow_neverRound() {
        Boundary.sentence("Promise 11", "the least i of such (3; NONE), at which i it COMES ROUND (4; NONE)");
        new Tower().method("x14").touch("p").due("told(3)", NONE).due("told(4)", NONE).due("told(1)", 1).due("told(2)", 0);
        new Tower().method("xxx").touch("p").due("told(3)", 3).due("told(4)", 2).due("told(1)", 0).due("told(2)", 1);
        Boundary.changeNothing(() -> new Tower().method("x14").touch("p"), NONE, "told(3)", "told(4)");
    }

    static void told_STATE_noMethodOrNoTouch() {
        Boundary.sentence("Promise 11", "STATE, likewise.");
        for (int what = 0; what <= 6; what++) {
            Boundary.changesNothing(States::bare, "told(" + what + ")", STATE);
            Boundary.changesNothing(States::onlyMethod, "told(" + what + ")", STATE);
            Boundary.changesNothing(States::onlyTouch, "told(" + what + ")", STATE);
        }
    }

    static void told_whetherItIsTrue_112ChangesAndOneLeadMore() {
        Boundary.sentence("Promise 11", "how many CHANGES (what = 0), whether it is TRUE (1: 1, 0), how many ROWS are FALSE (2)");
        Tower x = new Tower().bells(8).method("x18x18x18x18,12");
        x.touch("ppppppp").due("told(0)", 112).due("told(1)", 1).due("told(2)", 0).due("told(3)", NONE).due("told(4)", 112).due("told(6)", 7);
        x.touch("pppppppp").due("told(0)", 128).due("told(1)", 0).due("told(2)", 16).due("told(3)", 113).due("told(4)", 112).due("told(6)", 8);
    }

    static void told_theLongestTouches_asTheyAreRungHere() {
        Boundary.sentence("Terms", "ROW 0 is ROUNDS, each other one comes of the one ahead by the next CHANGE.");
        rungHere(States.TRUE_OF_EIGHT, States.TRUE_LEADS, 1);
        rungHere(States.FORTY_CHANGES_OF_EIGHT, States.FORTY_LEADS, 0);
        rungHere(States.TRUE_OF_EIGHT, "sp".repeat(20), 0);
        rungHere(States.BOBS_AND_SINGLES_OF_EIGHT, "bbbss".repeat(8), 0);
    }

    // ---- promise 12

    static void bell_UNKNOWN_1ToMANY() {
        Boundary.sentence("Promise 12", "UNKNOWN;");
        for (int many = 4; many <= 8; many++) {
            Tower x = new Tower().bells(many).method("1234" + "5678".substring(0, many - 4)).touch("p");
            for (int what = 0; what <= 3; what++) {
                x.due("bell(0, 0, " + what + ")", UNKNOWN).due("bell(" + (many + 1) + ", 0, " + what + ")", UNKNOWN);
            }
            x.due("bell(1, 0, 0)", 1).due("bell(" + many + ", 0, 0)", many);
        }
        Boundary.changeNothingAnywhere(UNKNOWN, "bell(MIN, 0, 0)", "bell(-1, 0, 0)", "bell(0, 0, 1)", "bell(9, 0, 2)", "bell(MAX, 0, 3)");
        Boundary.changeNothing(States::four, UNKNOWN, "bell(5, 0, 0)", "bell(0, 0, 0)");
        Boundary.changeNothing(States::seven, UNKNOWN, "bell(8, 0, 0)", "bell(0, 0, 0)");
    }

    static void bell_OUTSIDE_what0To3() {
        Boundary.sentence("Promise 12", "OUTSIDE;");
        new Tower().method("x").touch("p").due("bell(1, 0, -1)", OUTSIDE).due("bell(1, 0, 0)", 1).due("bell(1, 0, 3)", 1).due("bell(1, 0, 4)", OUTSIDE);
        Boundary.changeNothingAnywhere(OUTSIDE, "bell(1, 0, MIN)", "bell(4, 0, -1)", "bell(1, 0, 4)", "bell(4, -1, MAX)");
    }

    static void bell_STATE_noMethodOrNoTouch() {
        Boundary.sentence("Promise 12", "STATE, likewise.");
        for (int what = 0; what <= 3; what++) {
            String[] calls = {"bell(1, 0, " + what + ")", "bell(6, -1, " + what + ")", "bell(6, MAX, " + what + ")"};
            Boundary.changeNothing(States::bare, STATE, calls);
            Boundary.changeNothing(States::onlyMethod, STATE, calls);
            Boundary.changeNothing(States::onlyTouch, STATE, calls);
        }
    }

    static void bell_NONE_thereIsNoSuchRow() {
        Boundary.sentence("Promise 12", "The PLACE of a BELL in ROW i of the TOUCH (what = 0; NONE: there is no such ROW)");
        Tower x = new Tower().bells(4).method("x14x14").touch("p").due("bell(1, 0, 0)", 1).due("bell(1, 3, 0)", 4).due("bell(1, 4, 0)", 4)
            .due("bell(4, 0, 0)", 4).due("bell(4, 4, 0)", 1);
        x.dueOfEach(NONE, "bell(1, MIN, 0)", "bell(1, -1, 0)", "bell(1, 5, 0)", "bell(4, 1601, 0)", "bell(4, MAX, 0)");
        States.full().due("bell(8, 0, 0)", 8).due("bell(8, 1601, 0)", NONE);
    }

    static void bell_placesInRowsFrom1On() {
        Boundary.sentence("Promise 12", "at how many PLACES it ever is in ROWS from 1 on (1)");
        new Tower().bells(4).method("x").touch("p").due("bell(1, 0, 1)", 1).due("bell(4, 0, 1)", 1).touch("pp").due("bell(1, 0, 1)", 2);
        Tower hunting = new Tower().bells(8).method("x18").touch("p".repeat(8));
        for (int bell = 1; bell <= 8; bell++) {
            hunting.due("bell(" + bell + ", 0, 1)", 8).due("bell(" + bell + ", 0, 2)", 2).due("bell(" + bell + ", 0, 3)", 2);
        }
    }

    static void bell_inHowManyOfTheseAtPlace1() {
        Boundary.sentence("Promise 12", "in how many of these it is at PLACE 1 (2)");
        new Tower().bells(4).method("1234").touch("p").due("bell(1, 0, 2)", 1).due("bell(2, 0, 2)", 0);
        new Tower().bells(4).method("x").touch("p").due("bell(1, 0, 2)", 0).due("bell(2, 0, 2)", 1).touch("pp").due("bell(1, 0, 2)", 1);
        longAhead().due("bell(1, 0, 2)", 1520).due("bell(2, 0, 2)", 0);
    }

    static void bell_theLongestRun_row0Too() {
        Boundary.sentence("Promise 12", "the longest run of ROWS, ROW 0, too, in which it stays at one PLACE (3;");
        new Tower().bells(4).method("x").touch(FORTY_P).due("bell(1, 0, 3)", 1).due("bell(4, 0, 3)", 1);
        new Tower().bells(4).method("1234").touch("p").due("bell(3, 0, 3)", 2).touch("ppp").due("bell(3, 0, 3)", 4);
        // the run at the beginning, over the ends of LEADS, at the end
        new Tower().bells(4).method("1234.1234x").touch("p").due("bell(1, 0, 3)", 3).touch("pp").due("bell(1, 0, 3)", 3);
        new Tower().bells(4).method("1234x1234.1234").touch("p").due("bell(1, 0, 3)", 3).touch("pp").due("bell(1, 0, 3)", 4);
        longAhead().due("bell(1, 0, 3)", 1521).due("bell(2, 0, 3)", 1).due("bell(1, 0, 1)", 1).due("bell(2, 0, 1)", 2);
    }

    static void bell_of1To3IIsNoMatter() {
        Boundary.sentence("Promise 12", "of 1 to 3 i is no matter");
        int[] want = {3, 2, 2};
        for (int what = 1; what <= 3; what++) {
            Tower x = new Tower().bells(4).method("x14x14").touch("p");
            for (String i : new String[] {"MIN", "-1", "0", "4", "5", "MAX"}) {
                x.due("bell(2, " + i + ", " + what + ")", want[what - 1]);
            }
        }
    }

    // ---- promise 13

    static void head_OUTSIDE_both() {
        Boundary.sentence("Promise 13", "NUMBER of the HEAD of a letter, 0 p, 1 b, 2 s (what = 0)", "OUTSIDE: both;");
        Tower x = new Tower().method("x").due("head(-1, 0)", OUTSIDE).due("head(3, 0)", OUTSIDE).due("head(0, -1)", OUTSIDE).due("head(0, 2)", OUTSIDE);
        x.due("head(0, 0)", 214365).due("head(2, 0)", 123465).due("head(0, 1)", 2).due("head(2, 1)", 2);
        Boundary.changeNothingAnywhere(OUTSIDE, "head(MIN, 0)", "head(-1, 1)", "head(3, 0)", "head(MAX, 1)", "head(0, MIN)", "head(1, -1)",
            "head(2, 2)", "head(0, MAX)", "head(3, 2)");
    }

    static void head_STATE_thereIsNoMethod() {
        Boundary.sentence("Promise 13", "STATE: there is no METHOD.");
        String[] calls = {"head(0, 0)", "head(1, 0)", "head(2, 0)", "head(0, 1)", "head(1, 1)", "head(2, 1)"};
        Boundary.changeNothing(States::bare, STATE, calls);
        Boundary.changeNothing(States::onlyTouch, STATE, calls);
        States.onlyMethod().due("head(0, 0)", 135264).due("head(0, 1)", 5).bells(6).dueOfEach(STATE, calls);
    }

    static void head_theLeastNumberOfLeads() {
        Boundary.sentence("Promise 13", "the least number of LEADS of it at the end of which ROUNDS come (1).");
        new Tower().bells(4).method("x").due("head(0, 1)", 2).due("head(1, 1)", 2).due("head(2, 1)", 1);
        new Tower().bells(8).method(FORTY_X).due("head(0, 1)", 1);
        // a ring of three BELLS and one of five: fifteen, the most for eight
        new Tower().bells(8).method("38.14").due("head(0, 0)", 23157486).due("head(0, 1)", 15).due("head(1, 1)", 15);
    }

    // ---- promise 14

    static void falseHead_NONE_iBelowMinus1_andBeyondTheLast() {
        Boundary.sentence("Promise 14", "NUMBER of the i-th FALSE HEAD, from 0 on, the lesser NUMBERS first; i = -1: how many there are; NONE: there is none such"
            + " (i below -1, too).");
        Tower x = new Tower().method("x16x16x16,12").due("falseHead(-1)", 2).due("falseHead(0)", 123456).due("falseHead(1)", 132546);
        x.dueOfEach(NONE, "falseHead(MIN)", "falseHead(-3)", "falseHead(-2)", "falseHead(2)", "falseHead(3)", "falseHead(1600)", "falseHead(MAX)");
        Boundary.changeNothing(States::four, NONE, "falseHead(-2)", "falseHead(99)", "falseHead(MIN)", "falseHead(MAX)");
        // behind a METHOD of more FALSE HEADS one of fewer
        new Tower().bells(4).method("14.12.14").due("falseHead(4)", 1432).method("14").due("falseHead(0)", 1234).due("falseHead(1)", NONE);
    }

    static void falseHead_theLesserNumbersFirst_ofLongMethods() {
        Boundary.sentence("Promise 14", "the lesser NUMBERS first");
        falseHeadsAreByTheirRows(8, States.FORTY_CHANGES_OF_EIGHT);
        falseHeadsAreByTheirRows(8, "14.16.1238.18.1678.14.123458,1236.18");
        falseHeadsAreByTheirRows(8, "14.18.16.14.18.16.14.38.16.14.18.16.58");
        falseHeadsAreByTheirRows(7, "1.3.1.127.1.147.1.3.1.127.1.3.147.1.3,1");
        falseHeadsAreByTheirRows(6, States.FORTY_X);
    }

    static void falseHead_STATE_thereIsNoMethod() {
        Boundary.sentence("Promise 14", "STATE: there is no METHOD.");
        String[] calls = {"falseHead(MIN)", "falseHead(-2)", "falseHead(-1)", "falseHead(0)", "falseHead(MAX)"};
        Boundary.changeNothing(States::bare, STATE, calls);
        Boundary.changeNothing(States::onlyTouch, STATE, calls);
        States.onlyMethod().due("falseHead(-1)", 2).bells(6).dueOfEach(STATE, calls).due("falseHead(-1)", STATE);
    }

    // ---- what the tests above share

    private static void told(String method, String touch, int changes, int isTrue, int falseRows, int firstFalse, int round) {
        new Tower().method(method).touch(touch).due("told(0)", changes).due("told(1)", isTrue).due("told(2)", falseRows)
            .due("told(3)", firstFalse).due("told(4)", round).due("told(6)", touch.length());
    }

    private static void falseHeadsAre(int bells, String method, int... want) {
        Tower x = new Tower().bells(bells).method(method).due("falseHead(-1)", want.length);
        for (int i = 0; i < want.length; i++) {
            x.due("falseHead(" + i + ")", want[i]);
        }
        x.due("falseHead(" + want.length + ")", NONE);
    }

    /** All 1600 ROWS of eight BELLS, by the CHANGES that are told, and what is told of them. */
    private static void rungHere(String method, String touch, int isTrue) {
        Supplier<Tower> ready = () -> new Tower().bells(8).method(method).touch(touch);
        Tower x = ready.get();
        List<String> rows = ring(x, touch);
        int falseRows = 0;
        int firstFalse = NONE;
        int liked = 0;
        for (int i = 1; i < rows.size(); i++) {
            boolean isFalse = rows.subList(1, i).contains(rows.get(i));
            falseRows += isFalse ? 1 : 0;
            firstFalse = isFalse && firstFalse == NONE ? i : firstFalse;
            liked += "12345678 87654321".contains(rows.get(i).substring(5)) ? 1 : 0;
        }
        int round = rows.subList(1, rows.size()).indexOf(rows.get(0));
        x.due("told(0)", rows.size() - 1).due("told(1)", isTrue).due("told(1)", falseRows == 0 ? 1 : 0).due("told(2)", falseRows).due("told(3)", firstFalse)
            .due("told(4)", round < 0 ? NONE : round + 1).due("told(5)", liked).due("told(6)", touch.length());
        for (int i = 0; i < rows.size(); i++) {
            x = x.callsDone() == 512 ? ready.get() : x;
            x.due("row(" + i + ")", Integer.parseInt(rows.get(i)));
        }
    }

    private static List<String> ring(Tower x, String touch) {
        int[] sets = new int[x.ask("count(1)")];
        for (int i = 0; i < sets.length; i++) {
            sets[i] = x.ask("change(" + i + ")");
        }
        int plain = sets[sets.length - 1];
        int bob = x.ask("change(-1)");
        int single = x.ask("change(-2)");
        List<String> rows = new ArrayList<>(List.of("12345678"));
        for (char letter : touch.toCharArray()) {
            sets[sets.length - 1] = letter == 'p' ? plain : letter == 'b' ? bob : single;
            for (int stays : sets) {
                rows.add(changed(rows.get(rows.size() - 1), stays));
            }
        }
        return rows;
    }

    private static String changed(String row, int stays) {
        StringBuilder made = new StringBuilder(row);
        for (int place = 1; place <= row.length(); place++) {
            if ((stays >> place & 1) == 0) {
                made.setCharAt(place - 1, row.charAt(place));
                made.setCharAt(place, row.charAt(place - 1));
                place++;
            }
        }
        return made.toString();
    }

    /** By trying: which ROW makes one PLAIN ROW of another one. */
    private static void falseHeadsAreByTheirRows(int bells, String method) {
        Tower x = new Tower().bells(bells).method(method).touch("p");
        int changes = x.ask("told(0)");
        String[] plain = new String[changes];
        for (int i = 0; i < changes; i++) {
            plain[i] = "" + x.ask("row(" + i + ")");
        }
        TreeSet<Integer> heads = new TreeSet<>();
        for (String one : plain) {
            for (String other : plain) {
                char[] head = new char[bells];
                for (int place = 0; place < bells; place++) {
                    head[one.charAt(place) - '1'] = other.charAt(place);
                }
                if (head[0] == '1') {
                    heads.add(Integer.parseInt(new String(head)));
                }
            }
        }
        x.due("falseHead(-1)", heads.size());
        int i = 0;
        for (int head : heads) {
            // one object is not asked often enough for the longest lists
            if (x.callsDone() > 500) {
                x = new Tower().bells(bells).method(method);
            }
            x.due("falseHead(" + i + ")", head);
            i++;
        }
        x.due("falseHead(" + heads.size() + ")", NONE);
    }

    /** BELL 1 is at PLACE 1 in all of 1520 ROWS. */
    private static Tower longAhead() {
        return new Tower().bells(5).method("1.".repeat(18) + "1,1").touch(FORTY_P).due("told(0)", 1520);
    }
}
