/** Objects as they may be when a call is refused. */
final class States {
    static final String FORTY_X = "x".repeat(40);
    static final String FORTY_CHANGES_OF_EIGHT = "x14x58x16x38x14x58x16x38x14x58,12";
    static final String FORTY_LEADS = "pbspsbppbs".repeat(4);
    /** 40 CHANGES, of which the LEADS b b b s s are TRUE and come round. */
    static final String BOBS_AND_SINGLES_OF_EIGHT = "x34x36x78x58x14x3456x1458x58x1458x18,12";
    /** Likewise p p p p p. */
    static final String FIVE_PLAIN_LEADS_OF_EIGHT = "x58x3456x56x58x58x56x18x1458x16x14,18";
    /** 40 CHANGES, of which these 40 LEADS are TRUE: 1600 ROWS, none twice. */
    static final String TRUE_OF_EIGHT = "x16x58x14x58x36x38x14x58x36x18,12";
    static final String TRUE_LEADS = "spbppbbsbpssbspbsspbpssppbbspbbssbsbpppp";

    private States() {
    }

    static Tower bare() {
        return new Tower();
    }

    static Tower onlyMethod() {
        return new Tower().method("x16x16x16,12");
    }

    static Tower onlyTouch() {
        return new Tower().touch("pbs");
    }

    /** Its own BOB and SINGLE, one IMAGE, and a TOUCH on THE PAD. */
    static Tower four() {
        return new Tower().bells(5).method("5.1.5,125").touch("pb").image(0)
            .bells(4).method("x14x14,12").bob("12").single("34").touch("pbsps").pad("sb");
    }

    /** Both IMAGES, and THE PAD can't be taken. */
    static Tower seven() {
        return new Tower().method("x14").image(1)
            .bells(7).method("7.1.7.1.7.1.7,127").single("12347").touch("pbsp").image(0).bob("3").touch("ppb").pad("7.1.");
    }

    /** All is as long as can be: METHOD, TOUCH and THE PAD. */
    static Tower full() {
        return new Tower().bells(8).method(FORTY_CHANGES_OF_EIGHT).touch(FORTY_LEADS).image(1).pad(FORTY_X);
    }
}
