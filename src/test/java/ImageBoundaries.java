import java.util.List;

/** Promises 18 to 20: IMAGES and what is counted. */
final class ImageBoundaries extends BoundaryNumbers {

    // ---- promise 18

    static void image_OUTSIDE_0And1() {
        Boundary.sentence("Promise 18", "are kept in an IMAGE (0, 1)", "OUTSIDE.");
        new Tower().due("image(-1)", OUTSIDE).due("image(2)", OUTSIDE).due("count(4)", 0).due("image(0)", 1).due("count(4)", 1).due("image(1)", 1)
            .due("count(4)", 3);
        Boundary.changeNothingAnywhere(OUTSIDE, "image(MIN)", "image(-1)", "image(2)", "image(MAX)");
    }

    static void image_inPlaceOfWhatWasKeptThere() {
        Boundary.sentence("Promise 18", "in place of what was kept there: 1.");
        Tower x = new Tower().bells(8).method(States.FORTY_X).touch("p".repeat(40)).image(0).image(1);
        x.bells(4).image(0).restore(1).due("count(0)", 8).due("count(1)", 40).due("count(2)", 40);
        x.restore(0).due("count(0)", 4).due("count(1)", 0).due("count(2)", 0).due("change(0)", NONE).due("row(0)", STATE).due("count(4)", 3);
    }

    static void image_changesNothingElse() {
        Boundary.sentence("Promise 18", "MANY, METHOD, BOB, SINGLE and TOUCH are kept");
        Tower x = States.four();
        List<Integer> before = x.sight();
        x.image(0);
        Boundary.holds(before.equals(x.sight()), "something changed, from " + before);
        x.restore(0);
        Boundary.holds(before.equals(x.sight()), "something is not as it was kept, " + before);
    }

    static void image_ofNothing() {
        Boundary.sentence("Promise 18", "MANY, METHOD, BOB, SINGLE and TOUCH are kept");
        Tower x = new Tower();
        List<Integer> before = x.sight();
        x.image(0).bells(5).method("5.1").touch("p").bob("5").single("3").restore(0).due("count(4)", 1);
        before.set(4, 1);
        Boundary.holds(before.equals(x.sight()), "it is not as at first, " + before);
    }

    // ---- promise 19

    static void restore_asTheyWereWhenTheyWereKept() {
        Boundary.sentence("Promise 19", "They are as they were when they were kept; the IMAGE, THE PAD stay: 1.");
        Tower x = new Tower().bells(8).method(States.FORTY_CHANGES_OF_EIGHT).bob("18").single("1238").touch(States.FORTY_LEADS).image(1);
        List<Integer> kept = x.sight();
        x.bells(4).method("12").touch("p").bob("x").single("12");
        x.due("reached(7)", 4).due("falseHead(-1)", 1).due("longest(5, -1)", 4).due("by(1243, 0)", 0).restore(1);
        Boundary.holds(kept.equals(x.sight()), "it is not as it was kept, " + kept);
        x.bells(5).restore(1).due("told(0)", 1600).due("change(-1)", 258).due("change(-2)", 270).due("count(4)", 2);
    }

    static void restore_thePadStays() {
        Boundary.sentence("Promise 19", "the IMAGE, THE PAD stay");
        new Tower().image(0).pad(States.FORTY_X).restore(0).due("count(3)", 40).due("say(120)", FULL).due("method()", 40);
        new Tower().pad("pb").image(0).due("wipe()", 2).restore(0).due("count(3)", 0);
        new Tower().bells(5).image(0).bells(6).pad("x").due("fault(1)", NONE).restore(0).due("fault(1)", 0).due("count(3)", 1);
    }

    static void restore_theImageStays_whateverComesBehind() {
        Boundary.sentence("Promise 19", "the IMAGE, THE PAD stay");
        // 214365 241356 423165 432156
        Tower x = new Tower().method("x14").touch("pb").image(0).restore(0).method("16.36.12").bob("x").single("x").touch("s").restore(0);
        x.due("count(1)", 2).due("count(2)", 2).due("change(0)", 0).due("change(1)", 18).due("change(-1)", 18).due("change(-2)", 30).due("row(4)", 432156);
        x.bells(4).restore(0).due("count(0)", 6).due("count(1)", 2).due("count(4)", 1);
    }

    static void restore_OUTSIDE() {
        Boundary.sentence("Promise 19", "OUTSIDE;");
        new Tower().image(0).image(1).due("restore(-1)", OUTSIDE).due("restore(0)", 1).due("restore(1)", 1).due("restore(2)", OUTSIDE);
        Boundary.changeNothingAnywhere(OUTSIDE, "restore(MIN)", "restore(-1)", "restore(2)", "restore(32)", "restore(MAX)");
    }

    static void restore_STATE_nothingWasKeptInIt() {
        Boundary.sentence("Promise 19", "STATE: nothing was kept in it.");
        new Tower().due("restore(0)", STATE).due("restore(1)", STATE).image(0).due("restore(1)", STATE).due("restore(0)", 1);
        new Tower().image(1).due("restore(0)", STATE).due("restore(1)", 1);
        Boundary.changeNothing(States::bare, STATE, "restore(0)", "restore(1)");
        Boundary.changeNothing(States::onlyMethod, STATE, "restore(0)", "restore(1)");
        Boundary.changesNothing(States::four, "restore(1)", STATE);
        Boundary.changesNothing(States::full, "restore(0)", STATE);
    }

    // ---- promise 20

    static void count_OUTSIDE_what0To4() {
        Boundary.sentence("Promise 20", "MANY (what = 0)", "which IMAGES are kept (4: 1 the first, 2 the second, added). OUTSIDE.");
        new Tower().due("count(-1)", OUTSIDE).due("count(0)", 6).due("count(4)", 0).due("count(5)", OUTSIDE);
        Boundary.changeNothingAnywhere(OUTSIDE, "count(MIN)", "count(-1)", "count(5)", "count(MAX)");
    }

    static void count_0_thereIsNone_upTo40() {
        Boundary.sentence("Promise 20", "CHANGES of the METHOD (1; 0: there is none), LEADS of the TOUCH (2; 0: there is none), signs of THE PAD (3)");
        new Tower().due("count(1)", 0).due("count(2)", 0).due("count(3)", 0).method("x").due("count(1)", 1).due("count(2)", 0)
            .touch("p").due("count(2)", 1).pad("z").due("count(3)", 1).bells(6).due("count(1)", 0).due("count(2)", 0).due("count(3)", 1);
        States.full().due("count(0)", 8).due("count(1)", 40).due("count(2)", 40).due("count(3)", 40).due("count(4)", 2);
    }

    static void count_whichImagesAreKept() {
        Boundary.sentence("Promise 20", "which IMAGES are kept (4: 1 the first, 2 the second, added)");
        new Tower().due("count(4)", 0).image(0).due("count(4)", 1).image(0).due("count(4)", 1).image(1).due("count(4)", 3).restore(0)
            .due("count(4)", 3).bells(8).due("count(4)", 3);
        new Tower().image(1).due("count(4)", 2).image(1).due("count(4)", 2).restore(1).due("count(4)", 2);
    }
}
