/** "Terms" and "What it is": refusals, NONE, and how long an object is used. */
final class TermsBoundaries extends BoundaryNumbers {
    private static final String FIRST = "Calls that are refused answer the first that fits, in the order in which they are told with the call";
    private static final String NOTHING = "What is refused changes nothing.";
    private static final String NO_REFUSAL = "NONE -6 is told only where no refusal fits.";
    private static final String THEN = "Whatever is told is told as things are then.";

    static void constants_areAsTold() {
        Boundary.sentence("The public face", "UNKNOWN = -1, OUTSIDE = -2, STATE = -3, FULL = -4, NONE = -6, FAULT = -7");
        Boundary.holds(BellTouches.UNKNOWN == UNKNOWN && BellTouches.OUTSIDE == OUTSIDE && BellTouches.STATE == STATE, "the first three");
        Boundary.holds(BellTouches.FULL == FULL && BellTouches.NONE == NONE && BellTouches.FAULT == FAULT, "the last three");
    }

    static void calls_the512thIsStillAsTold() {
        Boundary.sentence("What it is", "An object is used for at most 512 calls after it has been made");
        Tower x = States.full();
        while (x.callsDone() < 511) {
            x.due("row(0)", 12345678);
        }
        x.due("told(0)", 1600);
        Boundary.holds(x.callsDone() == 512, x.callsDone() + " calls were done");
        Tower dear = new Tower();
        for (int round = 0; dear.callsDone() + 5 <= 512; round++) {
            int many = 4 + round % 5;
            dear.bells(many).pad(many % 2 == 0 ? "x" : "" + many);
            dear.due("method()", 1).due("reached(1)", 2).due("by(12345678, -1)", many == 8 ? 0 : OUTSIDE);
        }
        dear.due("count(1)", 1).due("count(3)", 0);
        Boundary.holds(dear.callsDone() == 512, dear.callsDone() + " calls were done");
    }

    static void firstThatFits_say_OUTSIDE_aheadOf_FULL() {
        Boundary.sentence("Promise 3", "OUTSIDE: it is not 33 to 126; FULL: there are 40.");
        Boundary.sentence("Terms", FIRST);
        new Tower().pad(States.FORTY_X).dueOfEach(OUTSIDE, "say(32)", "say(127)", "say(MIN)", "say(MAX)").due("say(33)", FULL);
    }

    static void firstThatFits_method_FAULT_aheadOf_FULL() {
        Boundary.sentence("Promise 6", "FAULT; FULL: more than 40.");
        Boundary.sentence("Terms", FIRST);
        new Tower().pad("x".repeat(20) + ",xx").due("method()", FULL).pad("1").due("method()", FAULT);
        new Tower().pad("x".repeat(20) + ",xx").due("method()", FULL).pad(",").due("method()", FAULT);
        new Tower().pad("x".repeat(38) + ",").due("method()", FAULT).pad("x").due("method()", FULL);
    }

    static void firstThatFits_call_OUTSIDE_aheadOf_FAULT() {
        Boundary.sentence("Promise 7", "OUTSIDE; FAULT.");
        Boundary.sentence("Terms", FIRST);
        new Tower().dueOfEach(OUTSIDE, "call(-1)", "call(2)", "call(MIN)", "call(MAX)").due("call(0)", FAULT).due("call(1)", FAULT)
            .pad("x14").dueOfEach(OUTSIDE, "call(-1)", "call(2)").due("call(1)", FAULT);
    }

    static void firstThatFits_told_OUTSIDE_aheadOf_STATE() {
        Boundary.sentence("Promise 11", "OUTSIDE; STATE, likewise.");
        Boundary.sentence("Terms", FIRST);
        new Tower().dueOfEach(OUTSIDE, "told(-1)", "told(7)", "told(MIN)", "told(MAX)").dueOfEach(STATE, "told(0)", "told(6)");
    }

    static void firstThatFits_bell_UNKNOWN_aheadOf_OUTSIDE_aheadOf_STATE() {
        Boundary.sentence("Promise 12", "UNKNOWN; OUTSIDE; STATE, likewise.");
        Boundary.sentence("Terms", FIRST, "UNKNOWN -1 (no such BELL)");
        new Tower().dueOfEach(UNKNOWN, "bell(0, 0, 4)", "bell(7, 0, -1)", "bell(0, 0, 0)", "bell(7, -1, 3)", "bell(MIN, MIN, MIN)",
            "bell(MAX, MAX, MAX)").dueOfEach(OUTSIDE, "bell(1, 0, 4)", "bell(6, 0, -1)", "bell(6, -1, MAX)").dueOfEach(STATE, "bell(1, 0, 0)",
            "bell(6, 0, 3)");
        States.four().dueOfEach(UNKNOWN, "bell(0, 0, 4)", "bell(5, 0, -1)", "bell(5, -1, 0)").due("bell(4, -1, 4)", OUTSIDE)
            .due("bell(4, -1, 0)", NONE);
    }

    static void firstThatFits_head_OUTSIDE_aheadOf_STATE() {
        Boundary.sentence("Promise 13", "OUTSIDE: both; STATE: there is no METHOD.");
        Boundary.sentence("Terms", FIRST);
        new Tower().dueOfEach(OUTSIDE, "head(-1, 0)", "head(3, 0)", "head(0, -1)", "head(0, 2)", "head(3, 2)").dueOfEach(STATE, "head(0, 0)",
            "head(2, 1)");
    }

    static void firstThatFits_reached_OUTSIDE_aheadOf_STATE() {
        Boundary.sentence("Promise 15", "OUTSIDE; STATE: there is no METHOD.");
        Boundary.sentence("Terms", FIRST);
        new Tower().dueOfEach(OUTSIDE, "reached(0)", "reached(8)").dueOfEach(STATE, "reached(1)", "reached(7)");
    }

    static void firstThatFits_by_OUTSIDE_aheadOf_STATE() {
        Boundary.sentence("Promise 16", "OUTSIDE: it is no ROW's NUMBER; STATE: there is no METHOD.");
        Boundary.sentence("Terms", FIRST);
        new Tower().dueOfEach(OUTSIDE, "by(123455, -1)", "by(654322, -1)", "by(0, -2)").dueOfEach(STATE, "by(123456, -1)", "by(654321, 0)",
            "by(123456, -2)");
    }

    static void firstThatFits_longest_OUTSIDE_aheadOf_STATE() {
        Boundary.sentence("Promise 17", "OUTSIDE: n; STATE: there is no METHOD.");
        Boundary.sentence("Terms", FIRST);
        new Tower().dueOfEach(OUTSIDE, "longest(0, -1)", "longest(6, -1)", "longest(0, -2)").dueOfEach(STATE, "longest(1, -1)", "longest(5, 9)");
    }

    static void firstThatFits_restore_OUTSIDE_aheadOf_STATE() {
        Boundary.sentence("Promise 19", "OUTSIDE; STATE: nothing was kept in it.");
        Boundary.sentence("Terms", FIRST);
        new Tower().dueOfEach(OUTSIDE, "restore(-1)", "restore(2)").dueOfEach(STATE, "restore(0)", "restore(1)");
    }

    static void refusedChangesNothing_allAtOnce() {
        Boundary.sentence("Terms", NOTHING);
        Tower x = States.seven();
        java.util.List<Integer> before = x.sight();
        x.dueOfEach(OUTSIDE, "bells(3)", "bells(9)", "say(32)", "say(127)", "fault(-1)", "fault(3)", "call(-1)", "call(2)", "told(-1)",
            "told(7)", "bell(7, 0, 4)", "head(3, 0)", "head(0, 2)", "reached(0)", "reached(8)", "by(1234566, 0)", "longest(0, 0)",
            "longest(6, 0)", "image(-1)", "image(2)", "restore(-1)", "restore(2)", "count(-1)", "count(5)");
        x.dueOfEach(FAULT, "method()", "call(0)", "call(1)", "touch()").due("bell(8, 0, 0)", UNKNOWN).due("bell(0, 0, 0)", UNKNOWN);
        Boundary.holds(before.equals(x.sight()), "something changed, from " + before);
        Boundary.holds(x.lastSight().equals(States.seven().lastSight()), "THE PAD or an IMAGE changed");
    }

    static void NONE_onlyWhereNoRefusalFits() {
        Boundary.sentence("Terms", NO_REFUSAL);
        new Tower().dueOfEach(STATE, "row(-1)", "row(1)", "told(3)", "told(4)", "bell(1, -1, 0)", "bell(1, 1, 0)", "falseHead(-2)",
            "falseHead(1)", "by(123456, -2)", "by(123456, 0)", "longest(1, -2)", "longest(1, 5)");
        new Tower().dueOfEach(OUTSIDE, "by(1, -2)", "longest(0, -2)", "longest(6, 7)");
        new Tower().pad("x").due("fault(0)", NONE).due("fault(3)", OUTSIDE);
        new Tower().method("x").touch("p").dueOfEach(NONE, "row(-1)", "row(2)", "told(3)", "told(4)", "bell(1, -1, 0)", "falseHead(-2)",
            "falseHead(1)", "by(123456, -2)", "by(123456, 0)", "longest(1, -2)", "longest(1, -1)").due("by(1, -2)", OUTSIDE)
            .due("longest(0, -2)", OUTSIDE).due("bell(0, -1, 0)", UNKNOWN);
    }

    static void told_asThingsAreThen_behindACall() {
        Boundary.sentence("Terms", THEN);
        Tower x = new Tower().bells(4).method("x").touch("bs");
        x.due("row(1)", 1324).due("row(2)", 1324).due("told(2)", 1).due("head(1, 0)", 1324).due("reached(2)", 2).due("reached(7)", 8)
            .due("by(1324, 0)", 1).due("by(1243, -1)", NONE).due("longest(1, 0)", 2);
        x.bob("12").due("row(1)", 1243).due("row(2)", 1243).due("head(1, 0)", 1243).due("reached(2)", 2).due("reached(7)", 4)
            .due("by(1324, -1)", NONE).due("by(1243, 0)", 1);
        x.single("14").due("row(2)", 1423).due("told(2)", 0).due("head(2, 0)", 1324).due("reached(7)", 24).due("by(1324, 0)", 2)
            .due("longest(1, -1)", NONE);
    }

    static void told_asThingsAreThen_behindAMethod() {
        Boundary.sentence("Terms", THEN);
        Tower x = new Tower().bells(4).method("x14x14,12").touch("p");
        x.due("falseHead(-1)", 2).due("head(0, 0)", 1342).due("reached(1)", 3).due("by(1342, 0)", 0).due("longest(3, -1)", 24)
            .due("told(0)", 8).due("row(8)", 1342);
        x.method("x").due("falseHead(-1)", 1).due("head(0, 0)", 2143).due("reached(1)", 2).due("by(1342, -1)", NONE)
            .due("longest(3, -1)", 2).due("told(0)", 1).due("row(8)", NONE).due("row(1)", 2143);
    }

    static void told_asThingsAreThen_behindBells() {
        Boundary.sentence("Terms", THEN);
        Tower x = new Tower().pad("x").due("fault(0)", NONE).bells(5).due("fault(0)", 0).bells(8).due("fault(0)", NONE);
        x.onlyPad("18").due("fault(1)", NONE).bells(6).due("fault(1)", 1).bells(7).due("fault(1)", 1);
    }

    /** Whatever was asked before, behind a change each question answers as on an object of which nothing was asked. */
    static void told_asThingsAreThen_whateverWasAskedBefore() {
        Boundary.sentence("Terms", THEN);
        for (Change change : Change.values()) {
            for (String question : Tower.sightCalls()) {
                Tower asked = change.ready();
                asked.sight();
                asked.ask(question);
                change.make(asked);
                Tower fresh = change.ready();
                change.make(fresh);
                asked.due(question, fresh.ask(question));
            }
        }
    }

    private enum Change {
        BELLS, BELLS_AND_METHOD, METHOD, BOB, SINGLE, TOUCH, RESTORE, WIPE, SAY;

        Tower ready() {
            return new Tower().bells(4).method("12.14").bob("34").single("12").touch("ps").image(1)
                .bells(5).method("3.5.1").touch("pbsb").pad("pb");
        }

        void make(Tower x) {
            switch (this) {
                case BELLS: x.bells(6); break;
                case BELLS_AND_METHOD: x.bells(4).method("x14").touch("sb"); break;
                case METHOD: x.method("5.1.123"); break;
                case BOB: x.bob("5"); break;
                case SINGLE: x.single("123"); break;
                case TOUCH: x.touch("sspb"); break;
                case RESTORE: x.restore(1); break;
                case WIPE: x.due("wipe()", 2); break;
                default: x.pad("3"); break;
            }
        }
    }
}
