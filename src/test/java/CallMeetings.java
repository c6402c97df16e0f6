/** BOB or SINGLE told anew between two questions; the last CHANGE of the METHOD is another matter. */
final class CallMeetings extends BoundaryNumbers {
    private static final String THEN = "Whatever is told is told as things are then.";
    private static final String IN_PLACE = "by b BOB in place of the last one, by s SINGLE in place of it";

    /**
     * The ROWS of x14x14x14x are 2143 2413 4231 4321 3412 3142 1324, the last CHANGE is 12: so p makes 1342,
     * and b makes 1234 by 14, 1342 by 12, 3124 by 34, 1324 by 1234 and 3142 by x.
     */
    private static Tower plainBobOfFour() {
        return new Tower().bells(4).method("x14x14,12");
    }

    static void bob_toldAnew_rows() {
        Boundary.sentence("Terms", IN_PLACE, THEN);
        Tower x = plainBobOfFour().touch("b").due("row(8)", 1234).due("told(4)", 8).due("told(5)", 2).due("bell(2, 8, 0)", 2).due("bell(1, 0, 2)", 2);
        x.bob("12").due("row(8)", 1342).due("told(4)", NONE).due("told(5)", 1).due("bell(2, 8, 0)", 4).due("bell(1, 0, 2)", 2);
        x.bob("34").due("row(8)", 3124).due("told(4)", NONE).due("told(5)", 1).due("bell(2, 8, 0)", 3).due("bell(1, 0, 2)", 1).due("told(1)", 1);
        x.bob("1234").due("row(8)", 1324).due("told(1)", 0).due("told(2)", 1).due("told(3)", 8).due("bell(1, 0, 2)", 2);
        x.bob("x").due("row(8)", 3142).due("told(1)", 0).due("told(2)", 1).due("told(3)", 8).due("bell(1, 0, 2)", 1);
        x.bob("14").due("row(8)", 1234).due("told(1)", 1).due("told(2)", 0).due("told(3)", NONE).due("told(4)", 8);
        x.dueOfEach(8, "count(1)", "told(0)").due("change(7)", 6).due("row(7)", 1324).due("count(2)", 1);
    }

    static void bob_toldAnew_theRowsOfMoreLeads() {
        Boundary.sentence("Terms", IN_PLACE, THEN);
        Tower x = plainBobOfFour().touch("bbb").due("told(1)", 0).due("told(2)", 16).due("told(3)", 9).due("told(4)", 8).due("row(16)", 1234);
        x.bob("12").due("told(1)", 1).due("told(2)", 0).due("told(3)", NONE).due("told(4)", 24).due("row(16)", 1423).due("bell(1, 0, 2)", 6);
        // 3124 is a ring of three BELLS, too
        x.bob("34").due("row(16)", 2314).due("row(24)", 1234);
    }

    static void bob_toldAnew_heads() {
        Boundary.sentence("Promise 13", "NUMBER of the HEAD of a letter", "the least number of LEADS of it");
        Tower x = plainBobOfFour().due("head(1, 0)", 1234).due("head(1, 1)", 1);
        x.bob("12").due("head(1, 0)", 1342).due("head(1, 1)", 3).bob("34").due("head(1, 0)", 3124).due("head(1, 1)", 3);
        x.bob("1234").due("head(1, 0)", 1324).due("head(1, 1)", 2).bob("x").due("head(1, 0)", 3142).due("head(1, 1)", 4);
        x.due("head(0, 0)", 1342).due("head(0, 1)", 3).due("head(2, 0)", 1324).due("head(2, 1)", 2);
    }

    static void bob_toldAnew_whatCanCome() {
        Boundary.sentence("Terms", "REACHED by some letters", "BY of a ROW", THEN);
        Tower x = plainBobOfFour().due("reached(2)", 1).due("reached(3)", 3).due("reached(7)", 6).due("by(3124, -1)", NONE).due("by(1342, 0)", 0);
        // rings of three BELLS with and without BELL 1 make all even ROWS, with SINGLE all
        x.bob("34").due("reached(2)", 3).due("reached(3)", 12).due("reached(7)", 24).due("by(3124, -1)", 1).due("by(3124, 0)", 1).due("reached(5)", 6);
        x.bob("12").due("reached(2)", 3).due("reached(3)", 3).due("reached(7)", 6).due("by(3124, -1)", NONE).due("by(1342, 0)", 0);
        x.bob("1234").due("reached(2)", 2).due("reached(3)", 6).due("by(1324, -1)", 1).due("by(1324, 0)", 1);
        x.bob("14").due("by(1324, -1)", 1).due("by(1324, 0)", 2).due("reached(2)", 1);
    }

    static void bob_toldAnew_theLongest() {
        Boundary.sentence("Terms", "LONGEST of n", THEN);
        Tower x = plainBobOfFour().due("longest(1, -1)", 8).due("longest(1, 0)", 1).due("longest(3, -1)", 24);
        // b is p then: the first is p p p
        x.bob("12").due("longest(1, -1)", NONE).due("longest(2, -1)", NONE).due("longest(3, -1)", 24).due("longest(3, 0)", 0).due("longest(3, 2)", 0);
        x.bob("14").due("longest(1, -1)", 8).due("longest(1, 0)", 1);
    }

    static void bob_toldAnew_falseHeadsAreOfTheMethodAlone() {
        Boundary.sentence("Terms", "PLAIN ROWS: ROWS 0 to k less 1 of a LEAD p from ROUNDS");
        Tower x = plainBobOfFour().due("falseHead(-1)", 2).due("falseHead(1)", 1324);
        x.bob("x").single("34").due("falseHead(-1)", 2).due("falseHead(0)", 1234).due("falseHead(1)", 1324).due("falseHead(2)", NONE);
        // nor does the last CHANGE matter: it comes behind ROW 7
        x.method("x14x14,14").due("falseHead(-1)", 2).due("falseHead(1)", 1324).method("x14x14,1234").due("falseHead(-1)", 2);
    }

    static void single_toldAnew_sAlone() {
        Boundary.sentence("Terms", IN_PLACE, THEN);
        Tower x = plainBobOfFour().touch("s").due("row(8)", 1324).due("told(3)", 8).due("head(2, 0)", 1324).due("head(2, 1)", 2).due("reached(4)", 2)
            .due("reached(7)", 6).due("longest(1, 0)", 1);
        x.single("14").due("row(8)", 1234).due("told(3)", NONE).due("told(4)", 8).due("head(2, 0)", 1234).due("head(2, 1)", 1).due("reached(4)", 1)
            .due("reached(7)", 3).due("longest(1, 0)", 1).due("by(1324, -1)", NONE);
        x.single("34").due("row(8)", 3124).due("told(4)", NONE).due("head(2, 1)", 3).due("reached(4)", 3).due("reached(7)", 12).due("reached(3)", 3)
            .due("by(3124, 0)", 2).due("by(1324, -1)", NONE);
        x.due("head(1, 0)", 1234).due("head(0, 0)", 1342).touch("p").due("row(8)", 1342).touch("b").due("row(8)", 1234);
    }

    static void bobAndSingle_exchanged() {
        Boundary.sentence("Promise 7", "BOB (which = 0), SINGLE (1) is the CHANGE on THE PAD");
        Tower x = plainBobOfFour().touch("bs").bob("34").single("12").due("head(1, 0)", 3124).due("head(2, 0)", 1342).due("row(8)", 3124)
            .due("by(3124, 0)", 1).due("by(1342, 0)", 0);
        x.bob("12").single("34").due("head(1, 0)", 1342).due("head(2, 0)", 3124).due("row(8)", 1342).due("by(3124, 0)", 2).due("by(1342, 0)", 0);
    }

    static void call_toldAsItWas_leavesAll() {
        Boundary.sentence("Promise 7", "at how many PLACES BELLS stay by it.");
        Tower x = States.four();
        java.util.List<Integer> before = x.sight();
        x.due("wipe()", 2).pad("12").due("call(0)", 2).pad("34").due("call(1)", 2).pad("sb");
        Boundary.holds(before.equals(x.sight()), "something changed, from " + before);
    }

    static void call_beforeTheMethod_andBehindAnother() {
        Boundary.sentence("Promise 6", "The METHOD is that on THE PAD");
        // BOB and SINGLE stay as they were told, whatever METHOD comes
        Tower x = new Tower().bells(4).bob("34").single("x").due("head(1, 0)", STATE).method("x14x14,12").due("head(1, 0)", 3124).due("head(2, 0)", 3142);
        x.method("14").due("change(-1)", 24).due("change(-2)", 0).due("head(1, 0)", 2134).due("head(2, 0)", 2143).due("bells(4)", 4).method("14")
            .due("change(-1)", 18).due("change(-2)", 30).due("head(1, 0)", 1324).due("head(2, 0)", 1234);
    }

    static void call_methodOfOneChange_isGoneByACall() {
        Boundary.sentence("Terms", IN_PLACE);
        Tower x = new Tower().bells(4).method("x").touch("pbs").due("row(1)", 2143).due("row(2)", 2413).due("row(3)", 2413).due("told(2)", 1);
        x.single("x").due("row(3)", 4231).due("told(2)", 0).bob("x").due("row(2)", 1234).due("row(3)", 2143).due("told(4)", 2).due("told(3)", 3);
        x.due("change(0)", 0).due("count(1)", 1);
    }

    static void call_refusedBetweenTwoQuestions() {
        Boundary.sentence("Terms", "What is refused changes nothing.");
        Tower x = plainBobOfFour().touch("b").due("reached(3)", 3).due("row(8)", 1234).pad("34.").due("call(0)", FAULT).due("call(2)", OUTSIDE);
        x.due("reached(3)", 3).due("row(8)", 1234).due("head(1, 0)", 1234).due("change(-1)", 18).due("count(3)", 3).due("fault(1)", 2);
        x.onlyPad("34").due("call(2)", OUTSIDE).due("row(8)", 1234).due("call(0)", 2).due("row(8)", 3124).due("reached(3)", 12);
    }

    static void thePad_ofOneTextIsTakenOnce() {
        Boundary.sentence("Promise 7", "which is empty then");
        new Tower().bells(4).pad("x").due("call(0)", 0).dueOfEach(FAULT, "call(1)", "method()", "touch()").due("change(-2)", 30).due("count(1)", 0);
        new Tower().bells(4).pad("14").due("method()", 1).dueOfEach(FAULT, "call(0)", "call(1)").pad("p").dueOfEach(FAULT, "method()", "call(0)")
            .due("touch()", 1).dueOfEach(FAULT, "touch()", "method()").due("row(1)", 1324);
    }
}
