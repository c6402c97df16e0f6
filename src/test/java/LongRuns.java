import java.util.List;
import java.util.function.Supplier;

/** Runs of just 512 calls: what comes last is told as what comes first. */
final class LongRuns extends BoundaryNumbers {
    private static final String AT_MOST = "An object is used for at most 512 calls after it has been made";
    private static final int MOST_CALLS = 512;

    /** Each question, asked as the 512th call, answers as on an object of which little was asked. */
    static void the512th_eachQuestion() {
        Boundary.sentence("What it is", AT_MOST);
        for (Supplier<Tower> state : List.<Supplier<Tower>>of(States::bare, States::four, States::seven)) {
            for (String question : Tower.sightCalls()) {
                Tower x = usedUp(state.get(), MOST_CALLS - 1);
                x.due(question, state.get().ask(question));
            }
        }
    }

    /** Each call that changes things, as the 511th; what it changed is seen by the 512th. */
    static void the511th_eachChange() {
        Boundary.sentence("What it is", AT_MOST);
        changeLate(States::four, "bells(7)", 4, "count(0)", 7);
        changeLate(States::four, "bells(4)", 4, "count(1)", 0);
        changeLate(States::four, "bells(8)", 4, "row(0)", STATE);
        changeLate(States::four, "say(112)", 3, "count(3)", 3);
        changeLate(States::four, "wipe()", 2, "fault(2)", 0);
        changeLate(States::four, "touch()", 2, "told(6)", 2);
        changeLate(States::four, "restore(0)", 1, "row(1)", 21435);
        changeLate(States::four, "image(1)", 1, "count(4)", 3);
        changeLate(() -> States.four().onlyPad("x"), "method()", 1, "row(1)", 2143);
        changeLate(() -> States.four().onlyPad("14"), "call(0)", 2, "head(1, 0)", 1234);
        changeLate(() -> States.four().onlyPad("14"), "call(1)", 2, "reached(4)", 1);
        changeLate(States::full, "say(33)", FULL, "count(3)", 40);
        // by forty x p is nothing, b hunts over four PLACES, s changes 12 and 34: ten LEADS turn the four about, twenty bring them back
        changeLate(States::full, "method()", 40, "row(1600)", 12345678);
        changeLate(States::full, "touch()", FAULT, "count(2)", 40);
        changeLate(States::seven, "restore(1)", 1, "row(0)", STATE);
    }

    /** THE PAD is filled and emptied again and again. */
    static void thePad_filledTwelveTimes() {
        Boundary.sentence("Promise 3", "FULL: there are 40.");
        Tower x = new Tower();
        for (int round = 0; round < 12; round++) {
            for (int i = 1; i <= 40; i++) {
                x.due("say(" + (i == 40 ? 113 : 112) + ")", i);
            }
            x.due("say(112)", FULL).due(round % 2 == 0 ? "wipe()" : "fault(2)", round % 2 == 0 ? 40 : 39);
            x = round % 2 == 0 || round == 11 ? x : x.due("wipe()", 40);
        }
        usedUp(x, MOST_CALLS - 1).due("say(112)", FULL);
    }

    /** By x and another CHANGE BELLS hunt over 8, 6, 4, 2 PLACES, and twice as many ROWS come; the BELLS behind only go to and fro. */
    static void bobToldAnew_againAndAgain_ofEight() {
        Boundary.sentence("Terms", "Whatever is told is told as things are then.");
        String[] bobs = {"18", "1678", "14", "12", "x"};
        int[] reached = {16, 12, 8, 4, 2};
        Tower x = new Tower().bells(8).method("x").touch("pb");
        for (int round = 0; x.callsDone() + 12 <= MOST_CALLS; round++) {
            int at = round % bobs.length;
            x.pad(bobs[at]).due("call(0)", bobs[at].equals("x") ? 0 : bobs[at].length()).due("reached(3)", reached[at]).due("head(1, 1)", 2);
            x.due("reached(1)", 2).due("told(4)", at == 4 ? 2 : NONE).due("by(21436587, 0)", 0).due("longest(2, 1)", 0);
        }
        usedUp(x, MOST_CALLS - 1).due("head(0, 0)", 21436587);
    }

    /** All 40,320 ROWS are sought anew each time, and all is still in one room. */
    static void imagesOfEightAndFour_soughtAgainAndAgain() {
        Boundary.sentence("Promise 19", "They are as they were when they were kept");
        Tower x = new Tower().bells(8).method("x").bob("18").single("123456").image(0).bells(4).method("x").single("12").image(1);
        for (int round = 0; x.callsDone() + 12 <= MOST_CALLS; round++) {
            // 87654321 wants all 28 pairs of BELLS changed, by x four of them, by 18 three: so no fewer than eight LEADS, and p first
            x.restore(0).due("reached(7)", 40320).due("by(87654321, -1)", 8).due("by(87654321, " + round % 8 + ")", round % 2).due("reached(3)", 16);
            // likewise six pairs by two and one
            x.restore(1).due("reached(7)", 24).due("by(4321, -1)", 4).due("by(4321, " + round % 4 + ")", round % 2).due("reached(5)", 4)
                .due("by(87654321, -1)", OUTSIDE);
        }
        usedUp(x, MOST_CALLS - 1).due("count(4)", 3);
    }

    /** MANY told 100 times, each with its own METHOD and TOUCH; nothing of the one before is left. */
    static void manyToldAgainAndAgain() {
        Boundary.sentence("Promise 2", "MANY is v (or as it was): METHOD and TOUCH go: which it was.");
        int[] second = {2143, 21435, 214365, 2143657, 21436587};
        Tower x = new Tower();
        int before = 6;
        for (int round = 0; x.callsDone() + 12 <= MOST_CALLS; round++) {
            int many = 4 + round * 2 % 5;
            x.due("bells(" + many + ")", before).due("count(1)", 0).due("row(0)", STATE).due("say(112)", 1).due("touch()", 1);
            int stays = many % 2 == 0 ? 'x' : '0' + many;
            x.due("say(" + stays + ")", 1).due("method()", 1).due("row(1)", second[many - 4]).due("reached(1)", 2);
            x.due("longest(2, -1)", 2).due("told(4)", NONE);
            before = many;
        }
        usedUp(x, MOST_CALLS - 1).due("count(2)", 1);
    }

    // ---- what the tests above share

    private static Tower usedUp(Tower x, int calls) {
        String[] cheap = {"count(0)", "change(-1)", "row(1)", "fault(0)", "told(3)", "bell(1, 2, 0)", "head(1, 0)", "falseHead(0)"};
        for (int i = 0; x.callsDone() < calls; i++) {
            x.ask(cheap[i % cheap.length]);
        }
        Boundary.holds(x.callsDone() == calls, x.callsDone() + " calls were done");
        return x;
    }

    private static void changeLate(Supplier<Tower> state, String change, int want, String question, int seen) {
        Tower x = usedUp(state.get(), MOST_CALLS - 2).due(change, want).due(question, seen);
        Boundary.holds(x.callsDone() == MOST_CALLS, x.callsDone() + " calls were done");
    }
}
