/** For each promise: ordinary inputs, the edges that the document names, and wrong inputs. */
public final class PromiseTests {
    private static int wrong = 0;
    private static String promise = "";

    public static void main(String[] args) {
        newObject();
        bells();
        say();
        wipe();
        faultAsMethod();
        faultAsChange();
        faultAsTouch();
        method();
        call();
        touch();
        change();
        row();
        told();
        bell();
        head();
        falseHead();
        reached();
        by();
        longest();
        image();
        restore();
        count();
        constants();
        System.out.println(wrong == 0 ? "all promises hold" : wrong + " answers are wrong");
        if (wrong != 0) {
            System.exit(1);
        }
    }

    private static void due(String call, int got, int want) {
        if (got != want) {
            wrong++;
            System.out.println(promise + ": " + call + " answered " + got + ", due is " + want);
        }
    }

    private static void write(BellTouches x, String text) {
        x.wipe();
        for (int i = 0; i < text.length(); i++) {
            due("say " + text.charAt(i), x.say(text.charAt(i)), i + 1);
        }
    }

    private static BellTouches with(int many, String method, String touch) {
        BellTouches x = new BellTouches();
        x.bells(many);
        if (method != null) {
            write(x, method);
            due("method " + method, x.method() > 0 ? 1 : 0, 1);
        }
        if (touch != null) {
            write(x, touch);
            due("touch " + touch, x.touch(), touch.length());
        }
        return x;
    }

    private static void newObject() {
        promise = "1 a new object";
        BellTouches x = new BellTouches();
        due("count(0)", x.count(0), 6);
        due("count(1)", x.count(1), 0);
        due("count(2)", x.count(2), 0);
        due("count(3)", x.count(3), 0);
        due("count(4)", x.count(4), 0);
        due("change(-1)", x.change(-1), 2 + 16);
        due("change(-2)", x.change(-2), 2 + 4 + 8 + 16);
        due("change(0)", x.change(0), BellTouches.NONE);
        due("row(0)", x.row(0), BellTouches.STATE);
        due("head(0, 0)", x.head(0, 0), BellTouches.STATE);
        due("restore(0)", x.restore(0), BellTouches.STATE);
        due("restore(1)", x.restore(1), BellTouches.STATE);
        due("wipe()", x.wipe(), 0);
    }

    private static void bells() {
        promise = "2 bells";
        BellTouches x = with(4, "x14", "pb");
        write(x, "zz");
        for (int v : new int[] {3, 9, 0, -1, -4, Integer.MIN_VALUE, Integer.MAX_VALUE}) {
            due("bells(" + v + ")", x.bells(v), BellTouches.OUTSIDE);
        }
        due("count(0)", x.count(0), 4);
        due("count(1)", x.count(1), 2);
        due("count(2)", x.count(2), 2);
        due("bells(4) again", x.bells(4), 4);
        due("count(1), the METHOD is gone", x.count(1), 0);
        due("count(2), the TOUCH is gone", x.count(2), 0);
        due("count(3), THE PAD stays", x.count(3), 2);
        int[] bob = {18, 50, 18, 146, 18};
        int[] single = {30, 62, 30, 158, 30};
        for (int many = 4; many <= 8; many++) {
            due("bells(" + many + ")", x.bells(many), Math.max(many - 1, 4));
            due("BOB of " + many, x.change(-1), bob[many - 4]);
            due("SINGLE of " + many, x.change(-2), single[many - 4]);
        }
        write(x, "x");
        x.call(0);
        write(x, "x");
        x.call(1);
        due("BOB told", x.change(-1), 0);
        due("SINGLE told", x.change(-2), 0);
        due("bells(8)", x.bells(8), 8);
        due("BOB as at first", x.change(-1), 18);
        due("SINGLE as at first", x.change(-2), 30);
    }

    private static void say() {
        promise = "3 say";
        BellTouches x = new BellTouches();
        due("say(32)", x.say(32), BellTouches.OUTSIDE);
        due("say(127)", x.say(127), BellTouches.OUTSIDE);
        due("say(-1)", x.say(-1), BellTouches.OUTSIDE);
        due("say(big)", x.say(Integer.MAX_VALUE), BellTouches.OUTSIDE);
        due("say(33)", x.say(33), 1);
        due("say(126)", x.say(126), 2);
        for (int i = 3; i <= 40; i++) {
            due("say(112)", x.say(112), i);
        }
        due("say(112), 41st", x.say(112), BellTouches.FULL);
        due("say(32), 41st", x.say(32), BellTouches.OUTSIDE);
        due("count(3)", x.count(3), 40);
    }

    private static void wipe() {
        promise = "4 wipe";
        BellTouches x = new BellTouches();
        due("wipe()", x.wipe(), 0);
        x.say('p');
        x.say('b');
        due("wipe()", x.wipe(), 2);
        due("wipe()", x.wipe(), 0);
        due("say", x.say('s'), 1);
        due("touch()", x.touch(), 1);
        due("count(2)", x.count(2), 1);
    }

    private static void faultIs(int many, int how, String text, int want) {
        BellTouches x = new BellTouches();
        x.bells(many);
        write(x, text);
        due("fault(" + how + ") of " + text + " for " + many, x.fault(how), want);
        due("count(3) behind fault", x.count(3), text.length());
    }

    private static void faultAsMethod() {
        promise = "5 fault as a METHOD";
        int none = BellTouches.NONE;
        BellTouches x = new BellTouches();
        due("fault(-1)", x.fault(-1), BellTouches.OUTSIDE);
        due("fault(3)", x.fault(3), BellTouches.OUTSIDE);
        faultIs(6, 0, "", 0);
        faultIs(6, 0, "x", none);
        faultIs(5, 0, "x", 0);
        faultIs(7, 0, "1.x", 2);
        faultIs(7, 0, "1x", 1);
        faultIs(6, 0, "xx", none);
        faultIs(6, 0, "x.x", 1);
        faultIs(6, 0, "x.14", 1);
        faultIs(6, 0, "14.x", 3);
        faultIs(6, 0, "14.", 3);
        faultIs(6, 0, "14.36x12,12.16", none);
        faultIs(6, 0, "1", 1);
        faultIs(6, 0, "1x", 1);
        faultIs(6, 0, "1.", 1);
        faultIs(6, 0, "1,", 1);
        faultIs(6, 0, "13", 1);
        faultIs(6, 0, "141", 2);
        faultIs(6, 0, "143", 2);
        faultIs(6, 0, "144", 2);
        faultIs(6, 0, "145", 3);
        faultIs(6, 0, "1456", none);
        faultIs(6, 0, "18", 1);
        faultIs(8, 0, "18", none);
        faultIs(6, 0, "6", 0);
        faultIs(6, 0, "0", 0);
        faultIs(6, 0, "9", 0);
        faultIs(8, 0, "9", 0);
        faultIs(6, 0, ".", 0);
        faultIs(6, 0, ",", 0);
        faultIs(6, 0, "X", 0);
        faultIs(6, 0, "-", 0);
        faultIs(6, 0, "x,", 2);
        faultIs(6, 0, "x,,", 2);
        faultIs(6, 0, "x,.", 2);
        faultIs(6, 0, "x,x", none);
        faultIs(6, 0, "x,x,", 3);
        faultIs(6, 0, "x,x,x", 3);
        faultIs(6, 0, "14.,", 3);
        faultIs(6, 0, "14..", 3);
        faultIs(5, 0, "1", none);
        faultIs(5, 0, "12", 2);
        faultIs(5, 0, "123", none);
        faultIs(5, 0, "2", 0);
        faultIs(5, 0, "5.1.5.1.5,125", none);
        faultIs(4, 0, "5", 0);
        // more than 40 CHANGES are no FAULT
        faultIs(6, 0, "xxxxxxxxxxxxxxxxxxxxxxxxxxxxxxxxxxxxxx,x", none);
        // however many signs: the 40th may still want more
        faultIs(6, 0, "xxxxxxxxxxxxxxxxxxxxxxxxxxxxxxxxxxxxxxx1", 40);
    }

    private static void faultAsChange() {
        promise = "5 fault as a CHANGE";
        int none = BellTouches.NONE;
        faultIs(6, 1, "", 0);
        faultIs(6, 1, "x", none);
        faultIs(7, 1, "x", 0);
        faultIs(6, 1, "xx", 1);
        faultIs(6, 1, "x14", 1);
        faultIs(6, 1, "x1", 1);
        faultIs(6, 1, "14x", 2);
        faultIs(6, 1, "14.", 2);
        faultIs(6, 1, "14,", 2);
        faultIs(6, 1, ".", 0);
        faultIs(6, 1, "1", 1);
        faultIs(6, 1, "1234", none);
        faultIs(6, 1, "123456", none);
        faultIs(6, 1, "1234567", 6);
        faultIs(7, 1, "1234567", none);
        faultIs(7, 1, "7", none);
        faultIs(7, 1, "77", 1);
        faultIs(8, 1, "7", 1);
        faultIs(8, 1, "8", 0);
        faultIs(4, 1, "34", none);
        faultIs(4, 1, "24", 0);
    }

    private static void faultAsTouch() {
        promise = "5 fault as a TOUCH";
        int none = BellTouches.NONE;
        faultIs(6, 2, "", 0);
        faultIs(6, 2, "pbs", none);
        faultIs(6, 2, "pbsx", 3);
        faultIs(6, 2, "P", 0);
        faultIs(6, 2, "p,", 1);
        faultIs(6, 2, "pppppppppppppppppppppppppppppppppppppppp", none);
    }

    private static void method() {
        promise = "6 method";
        BellTouches x = new BellTouches();
        due("empty", x.method(), BellTouches.FAULT);
        write(x, "14.");
        due("14.", x.method(), BellTouches.FAULT);
        due("count(3)", x.count(3), 3);
        write(x, "xxxxxxxxxxxxxxxxxxxxxxxxxxxxxxxxxxxxxxxx");
        due("40 times x", x.method(), 40);
        due("count(3)", x.count(3), 0);
        write(x, "xxxxxxxxxxxxxxxxxxxx,x");
        due("20 and 1 there and back", x.method(), 40);
        write(x, "xxxxxxxxxxxxxxxxxxxx,xx");
        due("20 and 2 there and back", x.method(), BellTouches.FULL);
        due("count(3)", x.count(3), 23);
        due("count(1)", x.count(1), 40);
        write(x, "14.36x12,1234.16");
        due("with a comma", x.method(), 7 + 3);
        int[] want = {18, 72, 0, 6, 0, 72, 18, 30, 66, 30};
        for (int i = 0; i < want.length; i++) {
            due("change(" + i + ")", x.change(i), want[i]);
        }
        due("change(10)", x.change(10), BellTouches.NONE);
        write(x, "p");
        x.touch();
        write(x, "x14");
        due("without a comma", x.method(), 2);
        due("change(0)", x.change(0), 0);
        due("change(1)", x.change(1), 18);
        due("the TOUCH stays", x.count(2), 1);
        due("told(0)", x.told(0), 2);
        due("row(2)", x.row(2), 241356);
    }

    private static void call() {
        promise = "7 call";
        BellTouches x = with(6, "x16", "b");
        due("call(-1)", x.call(-1), BellTouches.OUTSIDE);
        due("call(2)", x.call(2), BellTouches.OUTSIDE);
        due("call(0), empty", x.call(0), BellTouches.FAULT);
        write(x, "x14");
        due("call(0), x14", x.call(0), BellTouches.FAULT);
        due("call(2), x14", x.call(2), BellTouches.OUTSIDE);
        due("count(3)", x.count(3), 3);
        due("row(2)", x.row(2), 241356);
        write(x, "12");
        due("call(0), 12", x.call(0), 2);
        due("count(3)", x.count(3), 0);
        due("change(-1)", x.change(-1), 6);
        due("change(-2)", x.change(-2), 30);
        due("row(2)", x.row(2), 213456);
        write(x, "x");
        due("call(1), x", x.call(1), 0);
        due("change(-2)", x.change(-2), 0);
        write(x, "123456");
        due("call(1), 123456", x.call(1), 6);
        due("change(-2)", x.change(-2), 126);
        due("change(-1)", x.change(-1), 6);
    }

    private static void touch() {
        promise = "8 touch";
        BellTouches x = new BellTouches();
        due("empty", x.touch(), BellTouches.FAULT);
        write(x, "pbq");
        due("pbq", x.touch(), BellTouches.FAULT);
        due("count(3)", x.count(3), 3);
        due("count(2)", x.count(2), 0);
        write(x, "pbs");
        due("pbs, without a METHOD", x.touch(), 3);
        due("count(3)", x.count(3), 0);
        due("count(2)", x.count(2), 3);
        write(x, "ssssssssssssssssssssssssssssssssssssssss");
        due("40 times s", x.touch(), 40);
        due("count(2)", x.count(2), 40);
    }

    private static void change() {
        promise = "9 change";
        BellTouches x = with(8, "x14.1678x,18", null);
        int[] want = {0, 18, 450, 0, 450, 18, 0, 258};
        for (int i = 0; i < want.length; i++) {
            due("change(" + i + ")", x.change(i), want[i]);
        }
        due("change(8)", x.change(8), BellTouches.NONE);
        due("change(max)", x.change(Integer.MAX_VALUE), BellTouches.NONE);
        due("change(-3)", x.change(-3), BellTouches.NONE);
        due("change(min)", x.change(Integer.MIN_VALUE), BellTouches.NONE);
    }

    private static void row() {
        promise = "10 row";
        due("no METHOD", with(6, null, "p").row(0), BellTouches.STATE);
        due("no TOUCH", with(6, "x", null).row(0), BellTouches.STATE);
        due("no TOUCH, i below 0", with(6, "x", null).row(-1), BellTouches.STATE);
        BellTouches x = with(5, "5.1.5.1.5,125", "bs");
        int[] want = {12345, 21435, 24153, 42513, 45231, 54321, 53412, 35142, 31524, 13254, 12354,
            21534, 25143, 52413, 54231, 45321, 43512, 34152, 31425, 13245, 13245};
        for (int i = 0; i < want.length; i++) {
            due("row(" + i + ")", x.row(i), want[i]);
        }
        due("row(21)", x.row(21), BellTouches.NONE);
        due("row(-1)", x.row(-1), BellTouches.NONE);
        due("row(max)", x.row(Integer.MAX_VALUE), BellTouches.NONE);
        due("row of 8", with(8, "x", "p").row(1), 21436587);
        String forty = "pppppppppppppppppppppppppppppppppppppppp";
        BellTouches longOne = with(8, "xxxxxxxxxxxxxxxxxxxxxxxxxxxxxxxxxxxxxxxx", forty);
        due("row(1600)", longOne.row(1600), 12345678);
        due("row(1599)", longOne.row(1599), 21436587);
        due("row(1601)", longOne.row(1601), BellTouches.NONE);
    }

    private static void told() {
        promise = "11 told";
        BellTouches bare = with(6, "x", null);
        due("told(-1)", bare.told(-1), BellTouches.OUTSIDE);
        due("told(7)", bare.told(7), BellTouches.OUTSIDE);
        for (int what = 0; what <= 6; what++) {
            due("told, no TOUCH", bare.told(what), BellTouches.STATE);
            due("told, no METHOD", with(6, null, "p").told(what), BellTouches.STATE);
        }
        int[][] want = {
            // x x: ROUNDS again, which is TRUE as ROW 0 is no matter
            {2, 1, 0, BellTouches.NONE, 2, 1, 1},
            // x x x: ROW 3 is ROW 1
            {3, 0, 1, 3, 2, 1, 1},
        };
        BellTouches two = with(6, "xx", "p");
        BellTouches three = with(6, "xxx", "p");
        for (int what = 0; what <= 6; what++) {
            due("xx told(" + what + ")", two.told(what), want[0][what]);
            due("xxx told(" + what + ")", three.told(what), want[1][what]);
        }
        // one row ever: the SINGLE of four BELLS moves none
        BellTouches still = with(4, "x", "sss");
        int[] stillWant = {3, 0, 2, 2, 1, 3, 3};
        for (int what = 0; what <= 6; what++) {
            due("still told(" + what + ")", still.told(what), stillWant[what]);
        }
        // 4 3 2 falls: 1234 -> 2143 -> 2413 -> 4231 -> 4321
        BellTouches hunt = with(4, "x14x14", "p");
        due("row(4)", hunt.row(4), 4321);
        due("liked: 4321 alone", hunt.told(5), 1);
        due("comes round", hunt.told(4), BellTouches.NONE);
        BellTouches round = with(4, "x14x14x14x14", "p");
        due("liked: 4321, 1234", round.told(5), 2);
        due("comes round", round.told(4), 8);
    }

    private static void bell() {
        promise = "12 bell";
        BellTouches bare = with(5, null, "p");
        due("bell(0, ..), wrong what", bare.bell(0, 0, 9), BellTouches.UNKNOWN);
        due("bell(6, ..) of five", bare.bell(6, 0, 0), BellTouches.UNKNOWN);
        due("bell(-1, ..)", bare.bell(-1, 0, 0), BellTouches.UNKNOWN);
        due("what -1", bare.bell(5, 0, -1), BellTouches.OUTSIDE);
        due("what 4", bare.bell(5, 0, 4), BellTouches.OUTSIDE);
        for (int what = 0; what <= 3; what++) {
            due("no METHOD", bare.bell(5, -1, what), BellTouches.STATE);
            due("no TOUCH", with(5, "1", null).bell(1, 0, what), BellTouches.STATE);
        }
        BellTouches x = with(4, "x14x14", "p");
        int[] place = {1, 2, 3, 4, 4};
        for (int i = 0; i < place.length; i++) {
            due("bell(1, " + i + ", 0)", x.bell(1, i, 0), place[i]);
        }
        due("bell(1, 5, 0)", x.bell(1, 5, 0), BellTouches.NONE);
        due("bell(1, -1, 0)", x.bell(1, -1, 0), BellTouches.NONE);
        due("places from ROW 1 on", x.bell(1, -7, 1), 3);
        due("at PLACE 1 from ROW 1 on", x.bell(1, 99, 2), 0);
        due("bell 2 at PLACE 1", x.bell(2, 0, 2), 2);
        due("bell 2 stays", x.bell(2, 0, 3), 2);
        due("bell 4 places", x.bell(4, 0, 1), 3);
        BellTouches still = with(4, "1234", "ppp");
        due("the run has ROW 0", still.bell(3, 0, 3), 4);
        due("one PLACE", still.bell(3, 0, 1), 1);
        due("never first", still.bell(3, 0, 2), 0);
        due("ever first, but ROW 0 is not counted", still.bell(1, 0, 2), 3);
    }

    private static void head() {
        promise = "13 head";
        BellTouches bare = new BellTouches();
        due("letter -1", bare.head(-1, 0), BellTouches.OUTSIDE);
        due("letter 3", bare.head(3, 0), BellTouches.OUTSIDE);
        due("what -1", bare.head(0, -1), BellTouches.OUTSIDE);
        due("what 2", bare.head(0, 2), BellTouches.OUTSIDE);
        due("no METHOD", bare.head(2, 1), BellTouches.STATE);
        BellTouches x = with(6, "x16x16x16,12", null);
        int[] heads = {135264, 123564, 132564};
        int[] leads = {5, 3, 6};
        for (int letter = 0; letter < 3; letter++) {
            due("head(" + letter + ", 0)", x.head(letter, 0), heads[letter]);
            due("head(" + letter + ", 1)", x.head(letter, 1), leads[letter]);
        }
        BellTouches one = with(4, "x", null);
        due("one CHANGE", one.head(0, 0), 2143);
        due("one CHANGE, BOB alone", one.head(1, 0), 1324);
        due("one CHANGE, SINGLE alone", one.head(2, 0), 1234);
        due("it is ROUNDS at once", one.head(2, 1), 1);
        due("BOB twice", one.head(1, 1), 2);
        BellTouches eight = with(8, "x18", null);
        due("hunting on eight", eight.head(0, 1), 8);
    }

    private static void falseHead() {
        promise = "14 falseHead";
        BellTouches bare = new BellTouches();
        due("no METHOD", bare.falseHead(-1), BellTouches.STATE);
        due("no METHOD, i below -1", bare.falseHead(-2), BellTouches.STATE);
        BellTouches one = with(6, "x", null);
        due("ROUNDS alone", one.falseHead(-1), 1);
        due("ROUNDS", one.falseHead(0), 123456);
        due("no second", one.falseHead(1), BellTouches.NONE);
        due("falseHead(-2)", one.falseHead(-2), BellTouches.NONE);
        due("falseHead(max)", one.falseHead(Integer.MAX_VALUE), BellTouches.NONE);
        BellTouches bob = with(6, "x16x16x16,12", null);
        due("Plain Bob", bob.falseHead(-1), 2);
        due("Plain Bob 1", bob.falseHead(1), 132546);
        // BELL 1 stays ahead: all that makes one PLAIN ROW of another one
        BellTouches ahead = with(4, "12.14.12", null);
        int[] want = {1234, 1243, 1342, 1423, 1432};
        due("1 ahead", ahead.falseHead(-1), want.length);
        for (int i = 0; i < want.length; i++) {
            due("1 ahead, " + i, ahead.falseHead(i), want[i]);
        }
        due("1 ahead, none more", ahead.falseHead(want.length), BellTouches.NONE);
    }

    private static void reached() {
        promise = "15 reached";
        BellTouches bare = new BellTouches();
        due("reached(0)", bare.reached(0), BellTouches.OUTSIDE);
        due("reached(8)", bare.reached(8), BellTouches.OUTSIDE);
        due("reached(-1)", bare.reached(-1), BellTouches.OUTSIDE);
        due("no METHOD", bare.reached(7), BellTouches.STATE);
        BellTouches x = with(8, "x18", null);
        due("p", x.reached(1), 8);
        due("p, b, s", x.reached(7), 40320);
        due("p again", x.reached(1), 8);
        BellTouches still = with(4, "1234", null);
        due("ROUNDS alone", still.reached(1), 1);
        due("ROUNDS alone, p and s", still.reached(5), 1);
        due("with b", still.reached(3), 2);
        write(still, "12");
        still.call(1);
        due("things are as they are then", still.reached(5), 2);
        due("b and s", still.reached(6), 6);
    }

    private static void by() {
        promise = "16 by";
        BellTouches bare = new BellTouches();
        for (int number : new int[] {0, -1, 12345, 1234567, 123455, 123450, 123457, -123456, 1123456,
            Integer.MIN_VALUE, Integer.MAX_VALUE}) {
            due("by(" + number + ", -1)", bare.by(number, -1), BellTouches.OUTSIDE);
        }
        due("no METHOD", bare.by(654321, -2), BellTouches.STATE);
        BellTouches x = with(4, "x14x14,12", null);
        due("ROUNDS", x.by(1234, -1), 0);
        due("ROUNDS, 0", x.by(1234, 0), BellTouches.NONE);
        due("1432", x.by(1432, -1), 2);
        due("1432, 0: p s, not s p", x.by(1432, 0), 0);
        due("1432, 1", x.by(1432, 1), 2);
        due("1432, 2", x.by(1432, 2), BellTouches.NONE);
        due("1432, -2", x.by(1432, -2), BellTouches.NONE);
        due("it never comes", x.by(2134, -1), BellTouches.NONE);
        due("it never comes, 0", x.by(2134, 0), BellTouches.NONE);
        due("it never comes, -2", x.by(2134, -2), BellTouches.NONE);
        x.reached(1);
        due("1432, the search by p is another one", x.by(1432, -1), 2);
        write(x, "12");
        x.call(0);
        due("b as p is never told", x.by(1342, 0), 0);
        BellTouches eight = with(8, "x", null);
        due("8 ahead is no ROW of seven", eight.by(8234567, -1), BellTouches.OUTSIDE);
        due("8 BELLS", eight.by(21436587, -1), 1);
    }

    private static void longest() {
        promise = "17 longest";
        BellTouches bare = new BellTouches();
        due("longest(0)", bare.longest(0, -1), BellTouches.OUTSIDE);
        due("longest(6)", bare.longest(6, -1), BellTouches.OUTSIDE);
        due("longest(-1)", bare.longest(-1, -1), BellTouches.OUTSIDE);
        due("no METHOD", bare.longest(5, -5), BellTouches.STATE);
        BellTouches x = with(4, "x14x14,12", null);
        int[] want = {8, 8, 24, 24, 24};
        for (int n = 1; n <= 5; n++) {
            due("longest(" + n + ", -1)", x.longest(n, -1), want[n - 1]);
        }
        due("longest(2, 0)", x.longest(2, 0), 1);
        due("longest(2, 1)", x.longest(2, 1), BellTouches.NONE);
        due("longest(3, 2)", x.longest(3, 2), 0);
        due("longest(3, 3)", x.longest(3, 3), BellTouches.NONE);
        due("longest(3, -2)", x.longest(3, -2), BellTouches.NONE);
        BellTouches hunting = with(5, "5.1", null);
        due("no TOUCH of one LEAD", hunting.longest(1, -1), BellTouches.NONE);
        due("no TOUCH of one LEAD, 0", hunting.longest(1, 0), BellTouches.NONE);
        due("five LEADS", hunting.longest(5, -1), 10);
        BellTouches never = with(6, "xxx", null);
        due("no TRUE one", never.longest(5, -1), BellTouches.NONE);
        BellTouches one = with(4, "x", null);
        due("one CHANGE, n = 1: s", one.longest(1, -1), 1);
        due("one CHANGE, n = 1: s", one.longest(1, 0), 2);
        due("one CHANGE, n = 2: p p", one.longest(2, -1), 2);
        due("one CHANGE, n = 2: p p", one.longest(2, 1), 0);
    }

    private static void image() {
        promise = "18 image";
        BellTouches x = with(5, "5.1", "pbs");
        due("image(-1)", x.image(-1), BellTouches.OUTSIDE);
        due("image(2)", x.image(2), BellTouches.OUTSIDE);
        due("count(4)", x.count(4), 0);
        due("image(1)", x.image(1), 1);
        due("count(4)", x.count(4), 2);
        due("image(0)", x.image(0), 1);
        due("count(4)", x.count(4), 3);
        x.bells(8);
        due("image(0) in place of it", x.image(0), 1);
        x.bells(4);
        due("restore(0)", x.restore(0), 1);
        due("count(0)", x.count(0), 8);
        due("count(1)", x.count(1), 0);
        due("restore(1)", x.restore(1), 1);
        due("count(0)", x.count(0), 5);
        due("count(1)", x.count(1), 2);
        due("count(2)", x.count(2), 3);
    }

    private static void restore() {
        promise = "19 restore";
        BellTouches x = with(5, "5.1", "pbs");
        due("restore(-1)", x.restore(-1), BellTouches.OUTSIDE);
        due("restore(2)", x.restore(2), BellTouches.OUTSIDE);
        due("restore(1)", x.restore(1), BellTouches.STATE);
        write(x, "125");
        x.call(0);
        write(x, "145");
        x.call(1);
        int lastRow = x.row(6);
        int reached = x.reached(7);
        int falseHeads = x.falseHead(-1);
        x.image(1);
        due("restore(0)", x.restore(0), BellTouches.STATE);
        x.bells(6);
        write(x, "x14x");
        x.method();
        write(x, "p");
        x.touch();
        x.reached(7);
        x.falseHead(-1);
        write(x, "pp");
        due("restore(1)", x.restore(1), 1);
        due("THE PAD stays", x.count(3), 2);
        due("count(0)", x.count(0), 5);
        due("change(0)", x.change(0), 32);
        due("change(1)", x.change(1), 2);
        due("change(2)", x.change(2), BellTouches.NONE);
        due("change(-1)", x.change(-1), 38);
        due("change(-2)", x.change(-2), 50);
        due("told(6)", x.told(6), 3);
        due("row(6)", x.row(6), lastRow);
        due("reached(7)", x.reached(7), reached);
        due("falseHead(-1)", x.falseHead(-1), falseHeads);
        due("touch()", x.touch(), 2);
        due("the IMAGE stays", x.restore(1), 1);
        due("told(6)", x.told(6), 3);
        due("count(4)", x.count(4), 2);
    }

    private static void count() {
        promise = "20 count";
        BellTouches x = with(7, "7.1.7", "pb");
        write(x, "xyzw");
        x.image(0);
        int[] want = {7, 3, 2, 4, 1};
        for (int what = 0; what < want.length; what++) {
            due("count(" + what + ")", x.count(what), want[what]);
        }
        due("count(-1)", x.count(-1), BellTouches.OUTSIDE);
        due("count(5)", x.count(5), BellTouches.OUTSIDE);
    }

    private static void constants() {
        promise = "the constants";
        due("UNKNOWN", BellTouches.UNKNOWN, -1);
        due("OUTSIDE", BellTouches.OUTSIDE, -2);
        due("STATE", BellTouches.STATE, -3);
        due("FULL", BellTouches.FULL, -4);
        due("NONE", BellTouches.NONE, -6);
        due("FAULT", BellTouches.FAULT, -7);
    }
}
