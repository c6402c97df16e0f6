/** Part 3 of "Terms" and promises 15 to 17: REACHED, BY and LONGEST. */
final class ComingBoundaries extends BoundaryNumbers {
    private static final int[] FIRST_NUMBERS = {1234, 12345, 123456, 1234567, 12345678};
    private static final int[] LAST_NUMBERS = {4321, 54321, 654321, 7654321, 87654321};

    // ---- the terms

    static void reached_andRoundsItself() {
        Boundary.sentence("Terms", "REACHED by some letters: all ROWS that can be at the end of one LEAD or more of these, from ROUNDS on, and ROUNDS itself.");
        new Tower().bells(4).method("1234").due("reached(1)", 1).due("reached(4)", 1).due("reached(5)", 1).due("reached(2)", 2);
        new Tower().bells(4).method("x").due("reached(1)", 2);
    }

    static void by_roundsIsZeroLeads() {
        Boundary.sentence("Terms", "BY of a ROW: the fewest LEADS, of all three letters, at the end of which from ROUNDS on it comes (ROUNDS: 0)");
        for (int many = 4; many <= 8; many++) {
            int rounds = FIRST_NUMBERS[many - 4];
            String all = "12345678".substring(0, many);
            new Tower().bells(many).method(all).due("by(" + rounds + ", -1)", 0).due("by(" + rounds + ", 0)", NONE)
                .method(many % 2 == 0 ? "x" : "1").due("by(" + rounds + ", -1)", 0).due("by(" + rounds + ", 0)", NONE);
        }
    }

    static void by_pAheadOfBAheadOfS() {
        Boundary.sentence("Terms", "of such the first: that which has at the first LEAD at which they differ p ahead of b, b ahead of s.");
        // all three letters are one, then two of them
        new Tower().bells(4).method("14").single("14").due("by(1324, -1)", 1).due("by(1324, 0)", 0);
        new Tower().bells(4).method("x").single("14").due("by(1324, 0)", 1);
        new Tower().bells(4).method("x").single("x").due("by(2143, 0)", 0);
        // by 12 and 34 the same comes whichever goes first: p s, not s p; b s, not s b
        new Tower().bells(4).method("12").bob("x").single("34").due("by(2143, -1)", 1).due("by(2143, 0)", 1);
        new Tower().bells(4).method("12").bob("14").single("34").due("by(2143, -1)", 2).due("by(2143, 0)", 0).due("by(2143, 1)", 2);
        new Tower().bells(4).method("14").bob("12").single("34").due("by(2143, -1)", 2).due("by(2143, 0)", 1).due("by(2143, 1)", 2);
        // the fewest LEADS go ahead of the first letter
        new Tower().bells(4).method("12").bob("34").single("x").due("by(2143, -1)", 1).due("by(2143, 0)", 2);
    }

    static void longest_of1ToNLeads_mostChanges_theFirst() {
        Boundary.sentence("Terms", "LONGEST of n: of all TOUCHES of 1 to n LEADS that are TRUE and COME ROUND at their last ROW those with most CHANGES;"
            + " of such the first (likewise).");
        // s has its last ROW twice; p is a ring of five BELLS, b one of four, so b comes twice or four times: b b = p p and p = b b are not,
        // p b p b ends with 13542, b p b p likewise elsewhere; of four LEADS b b b b alone comes round, of five p p p p p, the first of all
        Tower x = new Tower().bells(5).method("5.1");
        x.dueOfEach(NONE, "longest(1, -1)", "longest(2, -1)", "longest(3, -1)").due("longest(4, -1)", 8).due("longest(5, -1)", 10);
        x.dueOfEach(1, "longest(4, 0)", "longest(4, 1)", "longest(4, 2)", "longest(4, 3)").due("longest(4, 4)", NONE);
        x.dueOfEach(0, "longest(5, 0)", "longest(5, 1)", "longest(5, 2)", "longest(5, 3)", "longest(5, 4)").due("longest(5, 5)", NONE);
        // all letters are one: the first is p alone
        Tower one = new Tower().bells(4).method("14").single("14").due("longest(1, -1)", NONE);
        one.due("longest(2, -1)", 2).due("longest(2, 0)", 0).due("longest(2, 1)", 0).due("longest(5, -1)", 2).due("longest(5, 2)", NONE);
    }

    static void longest_true_andRoundAtItsLastRow() {
        Boundary.sentence("Terms", "that are TRUE and COME ROUND at their last ROW");
        // p comes round, but behind another LEAD it has that one's last ROW again; of b and s the first four PLACES are turned (b) and
        // turned about (s): of two LEADS s s comes round, of three and five none, for turns are odd in number then, of four b b b b first
        new Tower().method("xx").due("longest(1, -1)", 2).due("longest(1, 0)", 0).due("longest(2, -1)", 4).due("longest(2, 1)", 2)
            .due("longest(3, -1)", 4).due("longest(4, -1)", 8).due("longest(5, -1)", 8).due("longest(5, 0)", 1).due("longest(5, 3)", 1).due("longest(5, 4)", NONE);
        // ROW 2 is ROUNDS by whatever letter, so that the last ROW, if it is ROUNDS, is FALSE
        new Tower().method("xxx").dueOfEach(NONE, "longest(1, -1)", "longest(2, -1)", "longest(5, -1)", "longest(5, 0)");
        new Tower().method("xxxx").dueOfEach(NONE, "longest(1, -1)", "longest(5, -1)");
        new Tower().method("123456").due("longest(1, -1)", 1).due("longest(1, 0)", 0).due("longest(1, 1)", NONE);
    }

    // ---- promise 15

    static void reached_OUTSIDE_1To7() {
        Boundary.sentence("Promise 15", "How many ROWS are REACHED by a set of letters, 1 to 7 (bit 0 p, bit 1 b, bit 2 s). OUTSIDE;");
        Tower x = new Tower().bells(4).method("12").bob("34").due("reached(0)", OUTSIDE).due("reached(8)", OUTSIDE);
        // p changes the last two, b the first two, s none
        int[] want = {2, 2, 4, 1, 2, 2, 4};
        for (int letters = 1; letters <= 7; letters++) {
            x.due("reached(" + letters + ")", want[letters - 1]);
        }
        Boundary.changeNothingAnywhere(OUTSIDE, "reached(MIN)", "reached(-1)", "reached(0)", "reached(8)", "reached(15)", "reached(MAX)");
    }

    static void reached_fromOneRowToAll() {
        Boundary.sentence("Promise 15", "How many ROWS are REACHED by a set of letters");
        String[][] texts = {{"x", "14", "12"}, {"5", "1", "123"}, {"x", "16", "1234"}, {"7", "1", "12345"}, {"x", "18", "123456"}};
        int[] all = {24, 120, 720, 5040, 40320};
        for (int many = 4; many <= 8; many++) {
            String[] three = texts[many - 4];
            Tower x = new Tower().bells(many).method(three[0]).bob(three[1]).single(three[2]).due("reached(7)", all[many - 4]);
            x.due("reached(3)", 2 * many).due("reached(1)", 2).due("reached(7)", all[many - 4]);
            x.method("12345678".substring(0, many)).due("reached(1)", 1);
        }
    }

    static void reached_STATE_thereIsNoMethod() {
        Boundary.sentence("Promise 15", "STATE: there is no METHOD.");
        Boundary.changeNothing(States::bare, STATE, "reached(1)", "reached(4)", "reached(7)");
        Boundary.changeNothing(States::onlyTouch, STATE, "reached(1)", "reached(7)");
        States.onlyMethod().due("reached(1)", 5).due("reached(7)", 120).bells(6).dueOfEach(STATE, "reached(1)", "reached(7)");
    }

    // ---- promise 16

    static void by_OUTSIDE_itIsNoRowsNumber() {
        Boundary.sentence("Promise 16", "OUTSIDE: it is no ROW's NUMBER;");
        for (int many = 4; many <= 8; many++) {
            int first = FIRST_NUMBERS[many - 4];
            int last = LAST_NUMBERS[many - 4];
            Tower x = new Tower().bells(many).method("12345678".substring(0, many)).due("by(" + first + ", -1)", 0).due("by(" + last + ", -1)", NONE);
            for (int number : new int[] {first - 1, first + 1, last - 1, last + 1, -first, -last, first / 10, last / 10, 0, -1, 1}) {
                x.due("by(" + number + ", -1)", OUTSIDE);
            }
            x.dueOfEach(OUTSIDE, "by(MIN, -1)", "by(MAX, -1)", "by(" + first + "0, 0)", "by(1" + first + ", 0)", "by(" + first + "1, 0)");
        }
        Boundary.changeNothingAnywhere(OUTSIDE, "by(MIN, -1)", "by(-1234, -1)", "by(0, 0)", "by(1233, -1)", "by(1, -2)", "by(MAX, MAX)");
    }

    static void by_OUTSIDE_ofAllNumbersJustTheRowsAreTaken() {
        Boundary.sentence("Promise 16", "OUTSIDE: it is no ROW's NUMBER;");
        Boundary.holds(rowsTaken(4, 0, 99999) == 24, "ROWS of four");
        Boundary.holds(rowsTaken(5, 10000, 99999) == 120, "ROWS of five");
        Boundary.holds(rowsTaken(8, 87650000, 87659999) == 24, "ROWS of eight that begin with 8765");
        Boundary.holds(rowsTaken(8, 187650000, 187659999) == 0, "numbers of nine figures");
        Boundary.holds(rowsTaken(4, 2147480000, Integer.MAX_VALUE) == 0, "the largest numbers");
        Boundary.holds(rowsTaken(4, -9999, 0) == 0, "numbers below 0");
        Boundary.holds(rowsTaken(4, Integer.MIN_VALUE, Integer.MIN_VALUE + 9999) == 0, "the least numbers");
    }

    static void by_NONE_itNeverComesOrThereIsNoneSuch() {
        Boundary.sentence("Promise 16", "how many LEADS (i = -1), the letter of the i-th, 0 p, 1 b, 2 s; NONE: it never comes, or there is none such (i below -1, too).");
        Tower x = new Tower().bells(4).method("12").bob("14").single("34").due("by(2143, -1)", 2).due("by(2143, 0)", 0).due("by(2143, 1)", 2);
        x.dueOfEach(NONE, "by(2143, MIN)", "by(2143, -3)", "by(2143, -2)", "by(2143, 2)", "by(2143, 3)", "by(2143, MAX)");
        Tower still = new Tower().bells(4).method("1234").dueOfEach(NONE, "by(2143, MIN)", "by(2143, -2)", "by(2143, -1)", "by(2143, 0)", "by(2143, MAX)");
        still.dueOfEach(NONE, "by(1234, -2)", "by(1234, 0)", "by(1234, 1)").due("by(1234, -1)", 0).due("by(1324, -1)", 1).due("by(1324, 0)", 1);
        Boundary.changeNothing(States::four, NONE, "by(1234, -2)", "by(1234, 0)", "by(4321, MAX)", "by(4321, MIN)");
    }

    static void by_theFarthestRowHasALetterForEachLead() {
        Boundary.sentence("Promise 16", "the letter of the i-th, 0 p, 1 b, 2 s;");
        // all that comes is hunting, p b p b .. or b p b p ..: both bring it by eight LEADS
        Tower x = new Tower().bells(8).method("x").bob("18").single("12345678").due("by(87654321, -1)", 8);
        for (int i = 0; i < 8; i++) {
            x.due("by(87654321, " + i + ")", i % 2);
        }
        x.due("by(87654321, 8)", NONE).due("by(87654321, -2)", NONE).due("by(13254768, -1)", 1).due("by(21436587, 0)", 0);
    }

    static void by_STATE_thereIsNoMethod() {
        Boundary.sentence("Promise 16", "STATE: there is no METHOD.");
        String[] calls = {"by(123456, -1)", "by(654321, 0)", "by(123456, MIN)", "by(123456, MAX)"};
        Boundary.changeNothing(States::bare, STATE, calls);
        Boundary.changeNothing(States::onlyTouch, STATE, calls);
        States.onlyMethod().due("by(123456, -1)", 0).bells(6).dueOfEach(STATE, calls);
    }

    // ---- promise 17

    static void longest_OUTSIDE_n1To5() {
        Boundary.sentence("Promise 17", "LONGEST of n, 1 to 5: how many CHANGES (i = -1), the letter of its i-th LEAD", "OUTSIDE: n;");
        // each CHANGE changes 5 and 6, so there are two LEADS or four: the longest is p s p s
        new Tower().method("x").due("longest(0, -1)", OUTSIDE).due("longest(1, -1)", NONE).due("longest(5, -1)", 4).due("longest(6, -1)", OUTSIDE);
        Boundary.changeNothingAnywhere(OUTSIDE, "longest(MIN, -1)", "longest(-1, -1)", "longest(0, 0)", "longest(6, -2)", "longest(MAX, MAX)");
    }

    static void longest_NONE_noSuchTouchOrNoneSuch() {
        Boundary.sentence("Promise 17", "NONE: there is no such TOUCH, or none such (i below -1, too).");
        Tower x = new Tower().bells(4).method("x14x14,12").due("longest(1, -1)", 8).due("longest(1, 0)", 1).due("longest(3, -1)", 24);
        x.dueOfEach(NONE, "longest(1, MIN)", "longest(1, -2)", "longest(1, 1)", "longest(1, MAX)", "longest(2, 1)", "longest(3, 3)", "longest(5, 3)");
        new Tower().method("xxx").dueOfEach(NONE, "longest(5, MIN)", "longest(5, -2)", "longest(5, -1)", "longest(5, 0)", "longest(5, MAX)");
        Boundary.changeNothing(States::four, NONE, "longest(1, -2)", "longest(5, 5)", "longest(5, MIN)", "longest(5, MAX)");
    }

    static void longest_theLetterOfItsIthLead() {
        Boundary.sentence("Promise 17", "the letter of its i-th LEAD");
        // p s p s: 214365 214356 123465 123456; p p is ROUNDS too early, and p b wants b p behind it, of which b has ROW 1 again
        new Tower().method("x").due("longest(4, -1)", 4).due("longest(4, 0)", 0).due("longest(4, 1)", 2).due("longest(4, 2)", 0)
            .due("longest(4, 3)", 2).due("longest(4, 4)", NONE);
        // the last of all TOUCHES of five LEADS: p is ROUNDS at once, b is FALSE, s hunts
        Tower last = new Tower().bells(5).method("5.5").bob("12345").single("1").due("longest(1, -1)", 2).due("longest(4, 0)", 0);
        last.due("longest(5, -1)", 10).dueOfEach(2, "longest(5, 0)", "longest(5, 1)", "longest(5, 2)", "longest(5, 3)", "longest(5, 4)");
    }

    static void longest_theLongestMethods() {
        Boundary.sentence("Promise 17", "how many CHANGES (i = -1)");
        // by whatever letter ROUNDS come after two CHANGES already, and again at the end
        new Tower().bells(8).method(States.FORTY_X).dueOfEach(NONE, "longest(1, -1)", "longest(5, -1)");
        // five LEADS of 40 CHANGES, all 200 ROWS new
        new Tower().bells(8).method(States.BOBS_AND_SINGLES_OF_EIGHT).due("longest(5, -1)", 200).dueOfEach(1, "longest(5, 0)", "longest(5, 1)", "longest(5, 2)")
            .dueOfEach(2, "longest(5, 3)", "longest(5, 4)").due("longest(5, 5)", NONE).touch("bbbss").due("told(1)", 1).due("told(4)", 200);
        new Tower().bells(8).method(States.FIVE_PLAIN_LEADS_OF_EIGHT).due("longest(5, -1)", 200).due("longest(5, 0)", 0).due("longest(5, 4)", 0)
            .touch("ppppp").due("told(1)", 1).due("told(4)", 200);
        // 135264, 123564: p is a ring of five BELLS, b one of three; WayMeetings rings all TOUCHES of up to five LEADS
        new Tower().method("x16x16x16,12").due("longest(3, 0)", 1).due("longest(4, 2)", 1).due("longest(4, -1)", 36).due("longest(5, -1)", 60).due("longest(5, 4)", 0).due("longest(5, 5)", NONE);
        new Tower().method("x16x16x16,16").due("longest(1, -1)", 12).due("longest(1, 0)", 0);
    }

    static void longest_STATE_thereIsNoMethod() {
        Boundary.sentence("Promise 17", "STATE: there is no METHOD.");
        String[] calls = {"longest(1, -1)", "longest(5, 0)", "longest(5, MIN)", "longest(1, MAX)"};
        Boundary.changeNothing(States::bare, STATE, calls);
        Boundary.changeNothing(States::onlyTouch, STATE, calls);
        States.onlyMethod().due("longest(5, -1)", 60).bells(6).dueOfEach(STATE, calls);
    }

    // ---- what the tests above share

    private static int rowsTaken(int many, int from, int to) {
        int taken = 0;
        Tower x = new Tower().bells(many);
        for (long number = from; number <= to; number++) {
            if (x.callsDone() == 512) {
                x = new Tower().bells(many);
            }
            // without a METHOD a ROW's NUMBER is refused by STATE
            taken += x.ask("by(" + number + ", -1)") == STATE ? 1 : 0;
        }
        return taken;
    }
}
