/** For each sentence of the document that names a boundary case a test of its own, found by the test's name and its words. */
public final class BoundaryTests {
    public static void main(String[] args) throws Exception {
        Boundary.readDocument();
        Boundary.runAll(TermsBoundaries.class);
        Boundary.runAll(PadBoundaries.class);
        Boundary.runAll(RowBoundaries.class);
        Boundary.runAll(ComingBoundaries.class);
        Boundary.runAll(ImageBoundaries.class);
        Boundary.refusalsAreThoseTold("bells", "say", "wipe", "fault", "method", "call", "touch", "change", "row", "told", "bell", "head",
            "falseHead", "reached", "by", "longest", "image", "restore", "count");
        Boundary.extremesWereAsked();
        int wrong = Boundary.wrongOnes();
        System.out.println(wrong == 0 ? "all " + Boundary.testsRun() + " sentences hold" : wrong + " answers are wrong");
        if (wrong != 0) {
            System.exit(1);
        }
    }
}
