import java.util.List;

/** Part 1 of "Terms" and promises 1 to 9: MANY, CHANGES, METHODS, TOUCHES, THE PAD. */
final class PadBoundaries extends BoundaryNumbers {
    private static final String FORTY_X = States.FORTY_X;
    private static final int[] BOBS = {18, 50, 18, 146, 18};
    private static final int[] SINGLES = {30, 62, 30, 158, 30};

    // ---- the terms

    static void many_4To8() {
        Boundary.sentence("Terms", "BELLS are 1 to MANY, MANY being 4 to 8 (6 at first).");
        new Tower().due("count(0)", 6).due("bells(3)", OUTSIDE).due("bells(9)", OUTSIDE).due("count(0)", 6)
            .due("bells(4)", 6).due("count(0)", 4).due("bells(8)", 4).due("count(0)", 8);
    }

    static void number_placeOneFirst_roundsFromFourToEight() {
        Boundary.sentence("Terms", "its NUMBER: its BELLS as figures, that at PLACE 1 first.", "ROUNDS: each BELL at the PLACE of its number.");
        int[] rounds = {1234, 12345, 123456, 1234567, 12345678};
        int[] first = {2134, 21345, 213456, 2134567, 21345678};
        String[] stays = {"34", "345", "3456", "34567", "345678"};
        for (int many = 4; many <= 8; many++) {
            new Tower().bells(many).method(stays[many - 4]).touch("p").due("row(0)", rounds[many - 4]).due("row(1)", first[many - 4]);
        }
    }

    static void change_evenNumbersOfPlacesBetweenAheadBehind() {
        Boundary.sentence("Terms", "between two PLACES at which BELLS stay, next to one another, ahead of the first such and behind the last such"
            + " there is an even number of PLACES");
        int[] howMany = {5, 8, 13, 21, 34};
        for (int many = 4; many <= 8; many++) {
            int taken = 0;
            for (int set = 1; set < 1 << many; set++) {
                boolean fits = evenGaps(set << 1, many);
                taken += fits ? 1 : 0;
                Tower x = new Tower().bells(many).pad(figures(set << 1));
                Boundary.holds(x.ask("fault(1)") == NONE == fits, figures(set << 1) + " of " + many);
                Boundary.holds(x.ask("fault(0)") == NONE == fits, figures(set << 1) + " of " + many + " as a METHOD");
                if (fits) {
                    x.due("call(1)", Integer.bitCount(set)).due("change(-2)", set << 1);
                } else {
                    x.due("call(1)", FAULT).due("change(-2)", SINGLES[many - 4]);
                }
            }
            Boundary.holds(taken + (many % 2 == 0 ? 1 : 0) == howMany[many - 4], taken + " CHANGES of " + many);
        }
    }

    static void change_allOthersChangeWithTheirNeighbours() {
        Boundary.sentence("Terms", "at some PLACES BELLS stay, all others change with their neighbours, two and two from PLACE 1 on");
        for (int many = 4; many <= 8; many++) {
            for (int set = 0; set < 1 << many; set++) {
                if (evenGaps(set << 1, many)) {
                    String text = set == 0 ? "x" : figures(set << 1);
                    new Tower().bells(many).method(text).touch("p").due("row(1)", changed(set << 1, many));
                }
            }
        }
    }

    static void change_x_MANYIsEvenThen() {
        Boundary.sentence("Terms", "As a text: x, if none stays (MANY is even then)");
        for (int many = 4; many <= 8; many++) {
            boolean even = many % 2 == 0;
            new Tower().bells(many).pad("x").due("fault(0)", even ? NONE : 0).due("fault(1)", even ? NONE : 0).due("call(0)", even ? 0 : FAULT);
            new Tower().bells(many).pad("1").due("fault(1)", even ? 1 : NONE).due("fault(0)", even ? 1 : NONE);
        }
    }

    static void change_figuresRising() {
        Boundary.sentence("Terms", "else figures, the PLACES at which BELLS stay, rising.");
        faults(6, "41", 0, 0);
        faults(6, "11", 1, 1);
        faults(6, "1441", 2, 2);
        faults(6, "1432", 2, 2);
        faults(6, "1456", NONE, NONE);
        faults(8, "123456787", 8, 8);
        faults(8, "123456789", 8, 8);
        faults(8, "12345678", NONE, NONE);
    }

    static void change_figuresFrom1ToMANY() {
        Boundary.sentence("Terms", "A ROW has each BELL at one of the PLACES 1 to MANY");
        for (int many = 4; many <= 8; many++) {
            faults(many, "0", 0, 0);
            faults(many, "9", 0, 0);
            int lastFirst = many % 2 == 0 ? many - 1 : many;
            faults(many, "" + lastFirst, many % 2 == 0 ? 1 : NONE, many % 2 == 0 ? 1 : NONE);
            faults(many, "" + (lastFirst + 2), 0, 0);
            String all = "12345678".substring(0, many);
            faults(many, all, NONE, NONE);
            faults(many, all + (many + 1), many, many);
        }
    }

    static void method_oneChangeOrMore() {
        Boundary.sentence("Terms", "A METHOD is one CHANGE or more.");
        new Tower().due("fault(0)", 0).due("method()", FAULT).due("count(1)", 0).pad("x").due("method()", 1).due("count(1)", 1);
    }

    static void block_aPointBetweenTwoUnlessOneIsX() {
        Boundary.sentence("Terms", "a BLOCK: one CHANGE or more, between two of which there is a point, unless one of both is x (then there is none)");
        methodFault("14.16", NONE);
        methodFault("1416", 2);
        methodFault("14..16", 3);
        methodFault(".14", 0);
        methodFault("14.", 3);
        methodFault("xx", NONE);
        methodFault("x.x", 1);
        methodFault("x14", NONE);
        methodFault("x.14", 1);
        methodFault("14x", NONE);
        methodFault("14.x", 3);
        methodFault("14x16", NONE);
        methodFault("14x.16", 3);
        methodFault("x14.16x", NONE);
    }

    static void block_anUnfinishedChangeCanNotEnd() {
        Boundary.sentence("Terms", "a BLOCK: one CHANGE or more");
        methodFault("1", 1);
        methodFault("1.", 1);
        methodFault("1x", 1);
        methodFault("1,", 1);
        methodFault("x,1", 3);
        methodFault("14.1", 4);
        methodFault("145", 3);
        methodFault("145,", 3);
    }

    static void method_twoBlocksWithACommaBetween() {
        Boundary.sentence("Terms", "As a text: a BLOCK, or two BLOCKS with a comma between");
        methodFault(",", 0);
        methodFault(",x", 0);
        methodFault("x,", 2);
        methodFault("x,x", NONE);
        methodFault("x,,x", 2);
        methodFault("x,.16", 2);
        methodFault("x,x,", 3);
        methodFault("x,x,x", 3);
        methodFault("x,16.14,", 7);
        methodFault("14.,x", 3);
        methodFault("14,16", NONE);
    }

    static void method_withoutACommaTheChangesOfItsBlock() {
        Boundary.sentence("Terms", "Without a comma the METHOD has the CHANGES of its BLOCK");
        changesAre("x", 0);
        changesAre("x14.16", 0, 18, 66);
    }

    static void method_butForItsLastOneFromBehind() {
        Boundary.sentence("Terms", "with a comma those of the first BLOCK, then these again but for its last one, from behind, then those of the second"
            + " BLOCK likewise.");
        changesAre("x,16", 0, 66);
        changesAre("x14,16", 0, 18, 0, 66);
        changesAre("x,16.14", 0, 66, 18, 66);
        changesAre("x14.16,12.36.14", 0, 18, 66, 18, 0, 6, 72, 18, 72, 6);
    }

    static void method_40ChangesAtMost() {
        Boundary.sentence("Terms", "40 CHANGES at most.");
        new Tower().pad(FORTY_X).due("method()", 40).due("count(1)", 40);
        new Tower().pad("x".repeat(39)).due("method()", 39);
        new Tower().pad("x".repeat(20) + ",x").due("method()", 40).due("count(1)", 40);
        new Tower().pad("x," + "x".repeat(20)).due("method()", 40);
        new Tower().pad("x".repeat(11) + "," + "x".repeat(10)).due("method()", 40);
        new Tower().pad("x".repeat(19) + ",x").due("method()", 38);
        new Tower().pad("x".repeat(21) + ",x").due("method()", FULL);
        new Tower().pad("x".repeat(20) + ",xx").due("method()", FULL);
        new Tower().pad("xx," + "x".repeat(20)).due("method()", FULL);
        new Tower().pad("x," + "x".repeat(38)).due("method()", FULL);
        new Tower().pad("x".repeat(38) + ",x").due("method()", FULL);
    }

    static void method_moreThan40AreNoFault() {
        Boundary.sentence("Promise 6", "FULL: more than 40.");
        Boundary.sentence("Terms", "the first sign by which no such text (of however many signs) can begin");
        new Tower().pad("x".repeat(20) + ",xx").due("fault(0)", NONE);
        new Tower().pad("x".repeat(38) + ",x").due("fault(0)", NONE);
    }

    static void method_noneAtFirst() {
        Boundary.sentence("Terms", "40 CHANGES at most. There is none at first.");
        new Tower().due("count(1)", 0).due("change(0)", NONE).due("head(0, 0)", STATE).touch("p").due("row(0)", STATE);
    }

    static void bobAndSingle_atFirstAndWheneverMANYIsTold() {
        Boundary.sentence("Terms", "at first (and whenever MANY is told) BELLS stay by BOB at 1 and 4, by SINGLE at 1, 2, 3 and 4, and, if MANY is odd,"
            + " by both at MANY, too.");
        new Tower().due("change(-1)", 18).due("change(-2)", 30);
        for (int many = 4; many <= 8; many++) {
            Tower x = new Tower().bells(many).due("change(-1)", BOBS[many - 4]).due("change(-2)", SINGLES[many - 4]);
            String all = "12345678".substring(0, many);
            x.bob(all).single(all).due("change(-1)", (2 << many) - 2).due("change(-2)", (2 << many) - 2);
            x.bells(many).due("change(-1)", BOBS[many - 4]).due("change(-2)", SINGLES[many - 4]);
            x.bob(all).single(all).due("bells(9)", OUTSIDE).due("change(-1)", (2 << many) - 2).due("change(-2)", (2 << many) - 2);
        }
    }

    static void touch_oneLeadOrMoreEach_p_b_s() {
        Boundary.sentence("Terms", "A TOUCH: one LEAD or more, each p (plain), b or s.");
        new Tower().due("touch()", FAULT).due("fault(2)", 0).pad("p").due("fault(2)", NONE).due("touch()", 1);
        for (int sign = 33; sign <= 126; sign++) {
            boolean letter = sign == 'p' || sign == 'b' || sign == 's';
            new Tower().pad("" + (char) sign).due("fault(2)", letter ? NONE : 0).due("touch()", letter ? 1 : FAULT);
            new Tower().pad("p" + (char) sign).due("fault(2)", letter ? NONE : 1).due("touch()", letter ? 2 : FAULT);
        }
    }

    static void touch_40LettersAtMost() {
        Boundary.sentence("Terms", "As a text these letters, 40 at most.");
        new Tower().pad("s".repeat(40)).due("say(115)", FULL).due("fault(2)", NONE).due("touch()", 40).due("count(2)", 40);
        new Tower().pad("s".repeat(39)).due("touch()", 39);
    }

    static void touch_noneAtFirst() {
        Boundary.sentence("Terms", "As a text these letters, 40 at most. There is none at first.");
        new Tower().due("count(2)", 0).method("x").due("told(6)", STATE).due("row(0)", STATE);
    }

    static void lead_bobOrSingleInPlaceOfTheLastOne() {
        Boundary.sentence("Terms", "A LEAD has all CHANGES of the METHOD, by b BOB in place of the last one, by s SINGLE in place of it.");
        new Tower().bells(4).method("x").touch("p").due("row(1)", 2143).touch("b").due("row(1)", 1324).touch("s").due("row(1)", 1234);
        // by x14: 2143 2413; of 2431 come 4213 4123, of 4213 come 2431 2341
        Tower x = new Tower().bells(4).method("x14.12");
        x.touch("p").due("row(2)", 2413).due("row(3)", 2431).touch("b").due("row(2)", 2413).due("row(3)", 2143)
            .touch("s").due("row(2)", 2413).due("row(3)", 2413);
        x.touch("pbs").due("told(0)", 9).due("row(3)", 2431).due("row(6)", 4213).due("row(9)", 2341).due("row(10)", NONE);
    }

    static void pad_upTo40Signs() {
        Boundary.sentence("Terms", "THE PAD has up to 40 signs.");
        Tower x = new Tower();
        for (int i = 1; i <= 40; i++) {
            x.due("say(112)", i);
        }
        x.due("say(112)", FULL).due("count(3)", 40);
    }

    static void fault_thePlaceFrom0On() {
        Boundary.sentence("Terms", "the place, from 0 on, of the first sign by which no such text (of however many signs) can begin that has all signs"
            + " before it, too");
        faults(6, "!", 0, 0);
        faults(6, "!!", 0, 0);
        methodFault("x!!", 1);
        methodFault("x".repeat(39) + "!", 39);
        new Tower().pad("p".repeat(39) + "x").due("fault(2)", 39).due("touch()", FAULT);
        new Tower().pad("x").pad("p".repeat(39)).due("fault(2)", 0).due("fault(0)", 1).due("fault(1)", 1);
    }

    static void fault_whichSignsCanBeFirst() {
        Boundary.sentence("Terms", "the first sign by which no such text (of however many signs) can begin");
        for (int many = 4; many <= 8; many++) {
            for (int sign = 33; sign <= 126; sign++) {
                boolean figure = sign >= '1' && sign <= '0' + many && sign % 2 == 1;
                boolean begins = figure || sign == 'x' && many % 2 == 0;
                Tower x = new Tower().bells(many).pad("" + (char) sign);
                Boundary.holds(x.ask("fault(0)") == 0 == !begins, (char) sign + " of " + many + " as a METHOD");
                Boundary.holds(x.ask("fault(1)") == 0 == !begins, (char) sign + " of " + many + " as a CHANGE");
            }
        }
    }

    static void fault_whichSignsCanFollow() {
        Boundary.sentence("Terms", "that has all signs before it, too");
        follow(6, "x", 0, "135x,");
        follow(6, "x", 1, "");
        follow(6, "1", 0, "246");
        follow(6, "1", 1, "246");
        follow(6, "14", 0, "5x.,");
        follow(6, "14", 1, "5");
        follow(6, "16", 0, "x.,");
        follow(6, "16", 1, "");
        follow(6, "14.", 0, "135");
        follow(6, "14,", 0, "135x");
        follow(6, "14,16", 0, "x.");
        follow(6, "14,x", 0, "135x");
        follow(7, "1", 0, "246.,");
        follow(7, "1", 1, "246");
        follow(7, "12", 0, "357");
        follow(7, "7", 0, ".,");
        follow(7, "7", 1, "");
        follow(7, "7.", 0, "1357");
        follow(7, "7,", 0, "1357");
        follow(8, "1", 0, "2468");
        follow(4, "1", 0, "24");
    }

    static void fault_moreMustCome_howManySignsItHas() {
        Boundary.sentence("Terms", "if there is none such, and more must come, how many signs it has; NONE: there is none.");
        new Tower().due("fault(0)", 0).due("fault(1)", 0).due("fault(2)", 0);
        methodFault("x".repeat(39) + "1", 40);
        methodFault("x".repeat(39) + ",", 40);
        methodFault("x".repeat(37) + "14.", 40);
        methodFault("x".repeat(38) + "14", NONE);
        methodFault(FORTY_X, NONE);
        faults(8, "1234567", 7, 7);
        faults(7, "1234567", NONE, NONE);
    }

    // ---- promise 1

    static void newObject_isAsTold() {
        Boundary.sentence("Promise 1", "Six BELLS, no METHOD, no TOUCH; THE PAD is empty; no IMAGE is kept.");
        new Tower().due("count(0)", 6).due("count(1)", 0).due("count(2)", 0).due("count(3)", 0).due("count(4)", 0)
            .due("wipe()", 0).due("restore(0)", STATE).due("restore(1)", STATE).due("row(0)", STATE).due("falseHead(-1)", STATE)
            .due("bell(6, 0, 0)", STATE).due("bell(7, 0, 0)", UNKNOWN).due("change(0)", NONE);
    }

    static void newObject_whateverOthersHoldIsNotIts() {
        Boundary.sentence("Promise 1", "Six BELLS, no METHOD, no TOUCH");
        Tower other = States.full();
        List<Integer> before = other.sight();
        Tower x = new Tower().due("count(0)", 6).due("count(1)", 0).due("count(3)", 0).due("restore(1)", STATE);
        x.bells(5).method("5.1").touch("ppppp").image(0).due("reached(1)", 5).due("longest(5, -1)", 10);
        Boundary.holds(before.equals(other.sight()), "another object's calls changed it");
    }

    // ---- promise 2

    static void bells_vOrAsItWas_methodAndTouchGo() {
        Boundary.sentence("Promise 2", "MANY is v (or as it was): METHOD and TOUCH go: which it was.");
        for (int many = 4; many <= 8; many++) {
            for (int next = 4; next <= 8; next++) {
                new Tower().bells(many).method("1234" + "5678".substring(0, many - 4)).touch("pp").pad("zz").due("bells(" + next + ")", many)
                    .due("count(0)", next).due("count(1)", 0).due("count(2)", 0).due("count(3)", 2).due("row(0)", STATE)
                    .due("head(0, 0)", STATE).due("change(0)", NONE);
            }
        }
    }

    static void bells_imagesStay() {
        Boundary.sentence("Promise 2", "METHOD and TOUCH go");
        new Tower().method("x14").touch("pb").image(1).bells(8).due("count(4)", 2).restore(1).due("count(0)", 6).due("count(1)", 2)
            .due("count(2)", 2);
    }

    static void bells_OUTSIDE_changesNothing() {
        Boundary.sentence("Promise 2", "OUTSIDE.");
        Boundary.changeNothingAnywhere(OUTSIDE, "bells(MIN)", "bells(-6)", "bells(-1)", "bells(0)", "bells(3)", "bells(9)", "bells(MAX)");
    }

    // ---- promise 3

    static void say_OUTSIDE_itIsNot33To126() {
        Boundary.sentence("Promise 3", "A sign more on THE PAD: how many. OUTSIDE: it is not 33 to 126");
        new Tower().due("say(32)", OUTSIDE).due("say(33)", 1).due("say(126)", 2).due("say(127)", OUTSIDE).due("count(3)", 2);
        int taken = 0;
        for (int sign = 33; sign <= 126; sign++) {
            taken += new Tower().ask("say(" + sign + ")");
        }
        Boundary.holds(taken == 94, taken + " signs are taken");
        Boundary.changeNothingAnywhere(OUTSIDE, "say(MIN)", "say(-112)", "say(0)", "say(32)", "say(127)", "say(368)", "say(65648)", "say(MAX)");
    }

    static void say_FULL_thereAre40() {
        Boundary.sentence("Promise 3", "FULL: there are 40.");
        new Tower().pad("x".repeat(39)).due("say(120)", 40).due("say(120)", FULL).due("say(33)", FULL).due("say(126)", FULL)
            .due("count(3)", 40).due("method()", 40).due("say(120)", 1);
        Boundary.changeNothing(States::full, FULL, "say(33)", "say(120)", "say(126)");
    }

    // ---- promise 4

    static void wipe_emptyAndFull() {
        Boundary.sentence("Promise 4", "THE PAD is empty: how many signs it had.");
        new Tower().due("wipe()", 0).due("wipe()", 0).pad("!").due("wipe()", 1).due("wipe()", 0).pad(FORTY_X).due("wipe()", 40)
            .due("count(3)", 0).due("fault(0)", 0).due("say(120)", 1).due("method()", 1);
        States.seven().due("wipe()", 4).due("count(1)", 14).due("count(2)", 3).due("count(4)", 3);
    }

    // ---- promise 5

    static void fault_OUTSIDE() {
        Boundary.sentence("Promise 5", "as a METHOD (how = 0), a CHANGE (1), a TOUCH (2); NONE. OUTSIDE.");
        new Tower().due("fault(-1)", OUTSIDE).dueOfEach(0, "fault(0)", "fault(1)", "fault(2)").due("fault(3)", OUTSIDE);
        Boundary.changeNothingAnywhere(OUTSIDE, "fault(MIN)", "fault(-1)", "fault(3)", "fault(MAX)");
    }

    static void fault_changesNothing() {
        Boundary.sentence("Promise 5", "NONE.");
        new Tower().pad("x").dueOfEach(NONE, "fault(0)", "fault(1)", "fault(0)", "fault(1)").due("fault(2)", 0).due("count(3)", 1)
            .due("count(1)", 0).due("method()", 1);
        new Tower().pad("pb").due("fault(2)", NONE).due("fault(2)", NONE).due("fault(1)", 0).due("fault(0)", 0).due("touch()", 2);
    }

    // ---- promise 6

    static void method_padIsEmptyThen() {
        Boundary.sentence("Promise 6", "The METHOD is that on THE PAD, which is empty then: how many CHANGES.");
        new Tower().pad("x").due("method()", 1).due("count(3)", 0).due("method()", FAULT).due("count(1)", 1).due("say(120)", 1);
        new Tower().method(FORTY_X).method("14").due("count(1)", 1).due("change(0)", 18).due("change(1)", NONE).due("change(39)", NONE);
    }

    static void method_theTouchStays() {
        Boundary.sentence("Promise 6", "The METHOD is that on THE PAD");
        new Tower().touch(States.FORTY_LEADS).due("row(0)", STATE).method(FORTY_X).due("told(0)", 1600).due("told(6)", 40).method("x")
            .due("told(0)", 40).due("told(6)", 40);
    }

    static void method_FAULT_changesNothing() {
        Boundary.sentence("Promise 6", "FAULT;");
        Boundary.changesNothing(States::bare, "method()", FAULT);
        Boundary.changesNothing(States::onlyMethod, "method()", FAULT);
        Boundary.changesNothing(States::four, "method()", FAULT);
        Boundary.changesNothing(States::seven, "method()", FAULT);
        Boundary.changesNothing(() -> States.onlyMethod().touch("pb").pad("x".repeat(39) + "1"), "method()", FAULT);
        Boundary.changesNothing(() -> States.onlyMethod().touch("pb").pad("14."), "method()", FAULT);
        Boundary.changesNothing(() -> States.onlyMethod().touch("pb").pad("1"), "method()", FAULT);
    }

    static void method_FULL_changesNothing() {
        Boundary.sentence("Promise 6", "FULL: more than 40.");
        Boundary.changesNothing(() -> States.bare().pad("x".repeat(20) + ",xx"), "method()", FULL);
        Boundary.changesNothing(() -> States.onlyMethod().touch("pb").pad("x".repeat(21) + ",x"), "method()", FULL);
        Boundary.changesNothing(() -> new Tower().method(FORTY_X).touch("pb").pad("x".repeat(38) + ",x"), "method()", FULL);
    }

    // ---- promise 7

    static void call_bobOrSingle_padIsEmptyThen() {
        Boundary.sentence("Promise 7", "BOB (which = 0), SINGLE (1) is the CHANGE on THE PAD, which is empty then");
        new Tower().pad("16").due("call(0)", 2).due("count(3)", 0).due("change(-1)", 66).due("change(-2)", 30).due("call(0)", FAULT)
            .pad("36").due("call(1)", 2).due("count(3)", 0).due("change(-1)", 66).due("change(-2)", 72).due("call(1)", FAULT);
        States.four().bob("14").due("count(1)", 8).due("count(2)", 5).due("count(4)", 1);
    }

    static void call_atHowManyPlacesBellsStay() {
        Boundary.sentence("Promise 7", "at how many PLACES BELLS stay by it.");
        for (int many = 4; many <= 8; many++) {
            String all = "12345678".substring(0, many);
            Tower x = new Tower().bells(many).pad(all).due("call(0)", many).pad(all).due("call(1)", many);
            x.pad(many % 2 == 0 ? "x" : "" + many).due("call(0)", many % 2).pad(many % 2 == 0 ? "x" : "1").due("call(1)", many % 2);
        }
    }

    static void call_OUTSIDE_changesNothing() {
        Boundary.sentence("Promise 7", "OUTSIDE;");
        new Tower().pad("x").due("call(-1)", OUTSIDE).due("call(2)", OUTSIDE).due("call(1)", 0).pad("x").due("call(0)", 0);
        Boundary.changeNothingAnywhere(OUTSIDE, "call(MIN)", "call(-1)", "call(2)", "call(MAX)");
        Boundary.changeNothing(() -> States.onlyMethod().touch("bs").pad("16"), OUTSIDE, "call(-1)", "call(2)");
    }

    static void call_FAULT_changesNothing() {
        Boundary.sentence("Promise 7", "FAULT.");
        Boundary.changeNothing(States::bare, FAULT, "call(0)", "call(1)");
        Boundary.changeNothing(States::four, FAULT, "call(0)", "call(1)");
        Boundary.changeNothing(States::seven, FAULT, "call(0)", "call(1)");
        Boundary.changeNothing(States::full, FAULT, "call(0)", "call(1)");
        for (String text : new String[] {"1", "14.", "x14", "xx", "14,16", "p", "1456!"}) {
            Boundary.changeNothing(() -> States.onlyMethod().touch("bs").pad(text), FAULT, "call(0)", "call(1)");
        }
    }

    // ---- promise 8

    static void touch_padIsEmptyThen() {
        Boundary.sentence("Promise 8", "The TOUCH is that on THE PAD, which is empty then: how many LEADS.");
        new Tower().pad("p").due("touch()", 1).due("count(3)", 0).due("count(2)", 1).due("touch()", FAULT).due("count(2)", 1)
            .pad("s".repeat(40)).due("touch()", 40).due("count(3)", 0).due("count(2)", 40).pad("b").due("touch()", 1).due("count(2)", 1);
        new Tower().method("x").touch("pbs").touch("b").due("told(6)", 1).due("told(0)", 1).due("row(1)", 132465).due("row(2)", NONE);
    }

    static void touch_FAULT_changesNothing() {
        Boundary.sentence("Promise 8", "FAULT.");
        Boundary.changesNothing(States::bare, "touch()", FAULT);
        Boundary.changesNothing(States::onlyMethod, "touch()", FAULT);
        Boundary.changesNothing(States::seven, "touch()", FAULT);
        Boundary.changesNothing(States::full, "touch()", FAULT);
        Boundary.changesNothing(() -> States.four().pad("p".repeat(37) + "P"), "touch()", FAULT);
        Boundary.changesNothing(() -> States.four().pad("x"), "touch()", FAULT);
    }

    // ---- promise 9

    static void change_iFrom0On() {
        Boundary.sentence("Promise 9", "The i-th CHANGE of the METHOD, from 0 on");
        new Tower().method("x14.16").due("change(0)", 0).due("change(2)", 66).due("change(3)", NONE);
        new Tower().bells(8).method(States.FORTY_CHANGES_OF_EIGHT).due("change(0)", 0).due("change(1)", 18).due("change(19)", 288)
            .due("change(20)", 0).due("change(37)", 18).due("change(38)", 0).due("change(39)", 6).due("change(40)", NONE).due("change(41)", NONE);
    }

    static void change_theSetOfPlaces() {
        Boundary.sentence("Promise 9", "(bit p, of the value 1 shifted left by p, for PLACE p)");
        new Tower().bells(8).method("12345678").due("change(0)", 510).bob("18").due("change(-1)", 258).single("x").due("change(-2)", 0);
    }

    static void change_NONE_thereIsNoneSuch() {
        Boundary.sentence("Promise 9", "BOB (i = -1), SINGLE (-2)", "NONE: there is none such (i below -2, too).");
        new Tower().due("change(-2)", 30).due("change(-1)", 18).dueOfEach(NONE, "change(MIN)", "change(-3)", "change(0)", "change(1)", "change(MAX)");
        States.full().dueOfEach(NONE, "change(MIN)", "change(-4)", "change(-3)", "change(40)", "change(MAX)").due("change(-2)", 30);
        Boundary.changeNothing(States::four, NONE, "change(-3)", "change(8)", "change(MIN)", "change(MAX)");
    }

    // ---- what the tests above share

    private static boolean evenGaps(int stays, int many) {
        int gap = 0;
        for (int place = 1; place <= many; place++) {
            if ((stays >> place & 1) == 0) {
                gap++;
            } else if (gap % 2 == 1) {
                return false;
            } else {
                gap = 0;
            }
        }
        return gap % 2 == 0;
    }

    private static String figures(int stays) {
        StringBuilder text = new StringBuilder();
        for (int place = 1; place <= 8; place++) {
            text.append((stays >> place & 1) == 1 ? "" + place : "");
        }
        return text.toString();
    }

    private static int changed(int stays, int many) {
        char[] row = "12345678".substring(0, many).toCharArray();
        for (int place = 1; place <= many; place++) {
            if ((stays >> place & 1) == 0) {
                row[place - 1] = (char) ('0' + place + 1);
                row[place] = (char) ('0' + place);
                place++;
            }
        }
        return Integer.parseInt(new String(row));
    }

    private static void faults(int many, String text, int asMethod, int asChange) {
        Tower x = new Tower().bells(many).pad(text).due("fault(0)", asMethod).due("fault(1)", asChange).due("count(3)", text.length());
        if (asMethod != NONE) {
            x.due("method()", FAULT);
        }
        if (asChange != NONE) {
            x.due("call(0)", FAULT);
        }
    }

    private static void methodFault(String text, int want) {
        Tower x = new Tower().pad(text).due("fault(0)", want).due("count(3)", text.length());
        Boundary.holds(x.ask("method()") == FAULT == (want != NONE), "method() of " + text);
    }

    /** Behind these signs just those can come. */
    private static void follow(int many, String signs, int how, String those) {
        for (int sign = 33; sign <= 126; sign++) {
            Tower x = new Tower().bells(many).pad(signs + (char) sign);
            boolean canCome = x.ask("fault(" + how + ")") != signs.length();
            Boundary.holds(canCome == those.indexOf(sign) >= 0, (char) sign + " behind " + signs + " of " + many);
        }
    }

    private static void changesAre(String text, int... want) {
        Tower x = new Tower().pad(text).due("method()", want.length).due("count(1)", want.length);
        for (int i = 0; i < want.length; i++) {
            x.due("change(" + i + ")", want[i]);
        }
        x.due("change(" + want.length + ")", NONE);
    }
}
