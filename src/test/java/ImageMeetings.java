/** What is kept in an IMAGE meets another MANY, another METHOD, BOB, SINGLE or TOUCH, and THE PAD. */
final class ImageMeetings extends BoundaryNumbers {
    private static final String AS_KEPT = "They are as they were when they were kept";
    private static final String PLAIN_BOB_OF_FOUR = "x14x14,12";

    static void restore_underAnotherMany_eachQuestionIsOfTheKeptOne() {
        Boundary.sentence("Promise 19", AS_KEPT);
        Tower x = new Tower().bells(4).method(PLAIN_BOB_OF_FOUR).touch("ppp").image(0).bells(8).method("x18").touch("pppppppp").image(1);
        for (int again = 0; again < 3; again++) {
            x.restore(1);
            isHuntingOfEight(x);
            x.restore(0);
            isPlainBobOfFour(x);
        }
    }

    private static void isPlainBobOfFour(Tower x) {
        x.due("count(0)", 4).due("count(1)", 8).due("count(2)", 3).due("told(0)", 24).due("told(1)", 1).due("told(4)", 24).due("told(5)", 4);
        x.due("row(0)", 1234).due("row(1)", 2143).due("row(16)", 1423).due("row(24)", 1234).due("row(25)", NONE);
        x.due("bell(4, 0, 0)", 4).due("bell(5, 0, 0)", UNKNOWN).due("bell(8, 0, 0)", UNKNOWN).due("bell(1, 0, 1)", 4);
        x.due("head(0, 0)", 1342).due("head(1, 0)", 1234).due("head(2, 0)", 1324).due("falseHead(-1)", 2).due("falseHead(1)", 1324);
        x.due("reached(1)", 3).due("reached(7)", 6).due("by(1432, -1)", 2).due("by(1432, 1)", 2).due("by(12345678, -1)", OUTSIDE);
        x.due("longest(2, -1)", 8).due("longest(5, -1)", 24).due("change(7)", 6).due("change(8)", NONE);
    }

    private static void isHuntingOfEight(Tower x) {
        x.due("count(0)", 8).due("count(1)", 2).due("count(2)", 8).due("told(0)", 16).due("told(1)", 1).due("told(4)", 16).due("told(5)", 2);
        x.due("row(0)", 12345678).due("row(1)", 21436587).due("row(8)", 87654321).due("row(16)", 12345678).due("row(24)", NONE);
        x.due("bell(4, 0, 0)", 4).due("bell(5, 0, 0)", 5).due("bell(8, 0, 0)", 8).due("bell(9, 0, 0)", UNKNOWN).due("bell(1, 0, 1)", 8);
        x.due("head(0, 0)", 24163857).due("head(0, 1)", 8).due("head(1, 0)", 24135678).due("falseHead(-1)", 1).due("falseHead(0)", 12345678);
        x.due("reached(1)", 8).due("reached(2)", 4).due("by(24163857, 0)", 0).due("by(1432, -1)", OUTSIDE);
        // p takes BELL 8 too far away for five LEADS; s s comes round, b b b b hunts over four PLACES
        x.due("longest(1, -1)", NONE).due("longest(2, -1)", 4).due("longest(2, 0)", 2).due("longest(4, -1)", 8).due("longest(4, 0)", 1);
        x.due("change(1)", 258).due("change(2)", NONE);
    }

    static void restore_isNoTellingOfMany_bobAndSingleAreAsKept() {
        Boundary.sentence("Terms", "at first (and whenever MANY is told)");
        Tower x = new Tower().bells(7).bob("3").single("127").image(0).due("bells(7)", 7).due("change(-1)", 146).due("change(-2)", 158).image(1);
        x.bells(6).due("change(-1)", 18).due("change(-2)", 30).restore(0).due("count(0)", 7).due("change(-1)", 8).due("change(-2)", 134);
        x.restore(1).due("change(-1)", 146).due("change(-2)", 158).due("bells(4)", 7).restore(0).due("change(-1)", 8).due("change(-2)", 134);
        x.due("bells(7)", 7).due("change(-1)", 146).due("change(-2)", 158).restore(0).due("change(-1)", 8).due("change(-2)", 134);
    }

    static void restore_bobOfMoreBellsMeetsFewer() {
        Boundary.sentence("Promise 19", AS_KEPT);
        // the BOB of eight stays at 7 and 8, which four BELLS haven't
        Tower x = new Tower().bells(4).method("x").touch("b").image(0).bells(8).bob("1278").single("345678").method("x").touch("bs").image(1);
        x.due("row(1)", 12436578).due("row(2)", 21436578).restore(0).due("change(-1)", 18).due("change(-2)", 30).due("row(1)", 1324)
            .due("head(2, 0)", 1234).restore(1).due("change(-1)", 390).due("change(-2)", 504).due("row(1)", 12436578).due("row(2)", 21436578);
    }

    static void restore_thePadIsReadByTheKeptMany() {
        Boundary.sentence("Promise 19", "the IMAGE, THE PAD stay");
        Tower x = new Tower().bells(5).image(0).bells(8).image(1).pad("18").due("fault(0)", NONE).due("fault(1)", NONE);
        x.restore(0).due("count(3)", 2).due("fault(0)", 1).due("fault(1)", 1).dueOfEach(FAULT, "method()", "call(0)", "call(1)").due("count(3)", 2);
        x.restore(1).due("fault(1)", NONE).due("call(0)", 2).due("count(3)", 0).due("change(-1)", 258);
        // a whole METHOD of five is none of eight, by its point; 1 is whole of five, of eight more must come
        x.onlyPad("5.1.5").due("fault(0)", 1).restore(0).due("fault(0)", NONE).due("method()", 3).due("count(0)", 5);
        x.onlyPad("1").due("fault(1)", NONE).restore(1).due("fault(1)", 1).due("fault(0)", 1).restore(0).due("call(1)", 1).due("change(-2)", 2);
        // a TOUCH is one by whatever MANY
        x.onlyPad("sb").due("fault(2)", NONE).restore(1).due("fault(2)", NONE).due("touch()", 2).due("count(0)", 8).due("count(2)", 2);
    }

    static void image_keepsNothingOfThePad() {
        Boundary.sentence("Promise 18", "MANY, METHOD, BOB, SINGLE and TOUCH are kept");
        Tower x = new Tower().pad("x14").image(0).due("count(3)", 3).due("method()", 2).image(1);
        x.restore(0).due("count(1)", 0).due("count(3)", 0).due("fault(0)", 0).due("method()", FAULT).pad("pp").restore(1).due("count(1)", 2)
            .due("count(3)", 2).due("touch()", 2).restore(0).due("count(2)", 0).due("count(3)", 0);
    }

    static void restore_withOrWithoutMethodAndTouch() {
        Boundary.sentence("Promise 19", AS_KEPT);
        Boundary.sentence("Promise 10", "STATE: there is no METHOD, or no TOUCH.");
        for (int kept = 0; kept < 4; kept++) {
            boolean method = kept % 2 == 1;
            boolean touch = kept / 2 == 1;
            Tower x = new Tower().bells(4);
            x = method ? x.method("14") : x;
            x = touch ? x.touch("pp") : x;
            x.image(0).method("x14x").touch("bbb").due("told(0)", 9).due("reached(1)", 2).restore(0);
            x.due("count(1)", method ? 1 : 0).due("count(2)", touch ? 2 : 0).due("change(0)", method ? 18 : NONE).due("change(2)", NONE);
            x.due("row(1)", method && touch ? 1324 : STATE).due("told(6)", method && touch ? 2 : STATE).due("bell(2, 1, 0)", method && touch ? 3 : STATE);
            x.due("head(0, 0)", method ? 1324 : STATE).due("falseHead(-1)", method ? 1 : STATE).due("reached(1)", method ? 2 : STATE);
            x.due("by(1324, 0)", method ? 0 : STATE).due("longest(2, -1)", method ? 2 : STATE);
            // what was missing is told
            x = method ? x : x.method("12");
            x = touch ? x : x.touch("ppp");
            x.due("told(0)", touch ? 2 : 3).due("row(1)", method ? 1324 : 1243).due("row(2)", 1234).due("row(3)", touch ? NONE : method ? 1324 : 1243);
            x.restore(0).due("count(1)", method ? 1 : 0).due("count(2)", touch ? 2 : 0);
        }
    }

    static void images_areTwo_andNeitherIsTheOther() {
        Boundary.sentence("Promise 18", "are kept in an IMAGE (0, 1), in place of what was kept there: 1.");
        Tower x = new Tower().bells(4).method("x14").touch("p").bob("12").image(0).restore(0).image(1);
        x.method("12.14.12").touch("sss").bob("x").single("34").image(0);
        x.restore(1).due("count(1)", 2).due("count(2)", 1).due("change(0)", 0).due("change(1)", 18).due("change(-1)", 6).due("change(-2)", 30)
            .due("row(2)", 2413);
        x.restore(0).due("count(1)", 3).due("count(2)", 3).due("change(0)", 6).due("change(2)", 6).due("change(-1)", 0).due("change(-2)", 24);
        // the same in both, then another one in the first
        x.image(1).method("14").image(0).restore(1).due("count(1)", 3).restore(0).due("count(1)", 1).due("count(2)", 3).due("change(-2)", 24);
    }

    static void restore_whatWasToldBehindItIsNotKept() {
        Boundary.sentence("Promise 19", AS_KEPT);
        Tower x = new Tower().bells(4).method("x").touch("pp").image(0);
        x.restore(0).method("14").restore(0).due("row(1)", 2143).touch("b").restore(0).due("told(6)", 2).bob("12").restore(0).due("change(-1)", 18);
        x.single("x").restore(0).due("change(-2)", 30).due("bells(5)", 4).restore(0).due("count(0)", 4).due("row(2)", 1234).due("row(3)", NONE);
    }

    static void restore_searchesAnew() {
        Boundary.sentence("Terms", "Whatever is told is told as things are then.");
        // by x and 14 the eight ROWS of hunting; by 12 and 14 all six that have 1 at PLACE 1
        Tower x = new Tower().bells(4).method("x").image(0).method("12").image(1);
        for (int again = 0; again < 3; again++) {
            x.restore(0).due("reached(7)", 8).due("by(1342, -1)", NONE).due("by(2413, -1)", 2).due("by(2413, 0)", 0).due("by(2413, 1)", 1);
            x.due("by(4321, -1)", 4).due("head(0, 0)", 2143).due("longest(2, 0)", 0).due("longest(1, 0)", 2);
            x.restore(1).due("reached(7)", 6).due("by(1342, -1)", 2).due("by(1342, 0)", 1).due("by(1342, 1)", 0).due("by(2413, -1)", NONE);
            x.due("by(4321, -1)", NONE).due("head(0, 0)", 1243);
        }
    }

    static void restore_refusedBetween_changesNothing() {
        Boundary.sentence("Terms", "What is refused changes nothing.");
        Tower x = new Tower().bells(4).method("x14").touch("p").image(1).bells(7).pad("x");
        x.due("restore(0)", STATE).due("restore(2)", OUTSIDE).due("image(2)", OUTSIDE).due("method()", FAULT).due("bells(3)", OUTSIDE);
        x.due("count(0)", 7).due("count(1)", 0).due("count(3)", 1).due("count(4)", 2).restore(1).due("row(2)", 2413).due("count(3)", 1).due("method()", 1)
            .due("row(1)", 2143).due("row(2)", NONE);
    }
}
