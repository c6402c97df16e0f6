/** A TOUCH that was told before its METHOD, and a METHOD told anew under a TOUCH. */
final class TouchMeetings extends BoundaryNumbers {
    private static final String NO_METHOD = "STATE: there is no METHOD, or no TOUCH.";

    static void touch_beforeItsMethod() {
        Boundary.sentence("Promise 10", NO_METHOD);
        Tower x = new Tower().touch("pb").due("count(2)", 2).due("count(1)", 0).dueOfEach(STATE, "row(0)", "told(0)", "told(6)", "bell(1, 0, 0)");
        x.method("x14").due("count(2)", 2).due("told(6)", 2).due("told(0)", 4).due("row(1)", 214365).due("row(2)", 241356).due("row(3)", 423165)
            .due("row(4)", 432156).due("row(5)", NONE);
    }

    static void touch_beforeItsMethod_andItsBob() {
        Boundary.sentence("Terms", "A LEAD has all CHANGES of the METHOD, by b BOB in place of the last one");
        new Tower().bells(4).touch("bp").bob("12").method("x14").due("row(2)", 2134).due("row(4)", 1423).due("told(0)", 4);
        new Tower().bells(4).touch("bp").method("x14").bob("12").due("row(2)", 2134).due("row(4)", 1423);
        new Tower().bells(4).bob("12").touch("bp").method("x14").due("row(2)", 2134).due("row(4)", 1423);
        new Tower().bells(4).bob("12").method("x14").touch("bp").due("row(2)", 2134).due("row(4)", 1423);
        new Tower().bells(4).method("x14").touch("bp").bob("12").due("row(2)", 2134).due("row(4)", 1423);
        new Tower().bells(4).method("x14").bob("12").touch("bp").due("row(2)", 2134).due("row(4)", 1423);
    }

    static void touch_beforeMany_isGone() {
        Boundary.sentence("Promise 2", "METHOD and TOUCH go");
        new Tower().touch("pp").due("bells(6)", 6).due("count(2)", 0).method("x").dueOfEach(STATE, "row(0)", "told(6)", "bell(1, 0, 0)").touch("p")
            .due("row(1)", 214365);
    }

    static void touch_theMethodIsRefused_andThenTaken() {
        Boundary.sentence("Terms", "What is refused changes nothing.");
        Tower x = new Tower().touch("pp").pad("14.").due("method()", FAULT).due("row(0)", STATE).due("count(2)", 2).pad("16").due("method()", 2);
        x.due("row(1)", 132465).due("row(2)", 123645).due("told(0)", 4);
        x.pad("x".repeat(21) + ",x").due("method()", FULL).due("told(0)", 4).due("row(1)", 132465).due("count(1)", 2).due("count(3)", 23);
    }

    static void method_toldAnewUnderATouch() {
        Boundary.sentence("Promise 6", "The METHOD is that on THE PAD, which is empty then: how many CHANGES.");
        Tower x = new Tower().bells(4).touch("ppp").method("x14x14,12").due("told(0)", 24).due("told(1)", 1).due("told(4)", 24).due("told(5)", 4)
            .due("bell(1, 0, 2)", 6);
        x.method("x").due("told(0)", 3).due("told(1)", 0).due("told(3)", 3).due("told(4)", 2).due("told(5)", 1).due("row(3)", 2143).due("row(4)", NONE)
            .due("bell(1, 0, 2)", 1).due("bell(1, 24, 0)", NONE);
        x.method("x14x14,14").due("told(0)", 24).due("told(1)", 0).due("told(2)", 16).due("told(3)", 9).due("told(4)", 8).due("told(5)", 6);
        x.method("1234").due("told(0)", 3).due("told(2)", 2).due("told(4)", 1).due("told(5)", 3).due("bell(1, 0, 2)", 3).due("bell(1, 0, 3)", 4);
    }

    static void touch_toldAnewUnderAMethod_changesRowsAlone() {
        Boundary.sentence("Promise 8", "The TOUCH is that on THE PAD, which is empty then: how many LEADS.");
        Tower x = new Tower().bells(4).method("x14x14,12").touch("p").due("row(8)", 1342).due("row(9)", NONE).due("reached(7)", 6).due("longest(3, -1)", 24);
        x.touch("bp").due("row(8)", 1234).due("row(16)", 1342).due("told(3)", 9).due("told(2)", 7).due("told(4)", 8);
        x.touch("s").due("row(8)", 1324).due("row(9)", NONE).due("told(2)", 1).due("told(0)", 8);
        x.due("reached(7)", 6).due("longest(3, -1)", 24).due("head(0, 0)", 1342).due("falseHead(-1)", 2).due("by(1342, 0)", 0).due("count(1)", 8);
    }

    static void touch_keptBeforeItsMethod() {
        Boundary.sentence("Promise 18", "MANY, METHOD, BOB, SINGLE and TOUCH are kept");
        Tower x = new Tower().bells(4).touch("bb").image(0).method("x14x14,12").image(1).due("told(4)", 8).restore(0).due("told(4)", STATE).due("count(2)", 2);
        x.method("x").due("row(1)", 1324).due("row(2)", 1234).due("told(4)", 2).restore(1).due("told(4)", 8).due("told(0)", 16);
    }

    static void thePad_staysWhileAllElseComesAndGoes() {
        Boundary.sentence("Terms", "THE PAD has up to 40 signs.");
        Tower x = new Tower().bells(4).image(0).pad("pb").bells(5).due("count(3)", 2).image(1).restore(0).due("count(3)", 2).due("fault(2)", NONE);
        x.dueOfEach(FAULT, "method()", "call(0)", "call(1)").dueOfEach(STATE, "row(0)", "told(0)", "reached(1)").due("say(115)", 3).due("touch()", 3)
            .due("count(2)", 3).due("count(3)", 0);
    }
}
