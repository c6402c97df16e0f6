/** Runs in which two promises meet, and long ones, up to the 512th call. */
public final class MeetingTests {
    public static void main(String[] args) throws Exception {
        Boundary.readDocument();
        Boundary.runAll(ImageMeetings.class);
        Boundary.runAll(CallMeetings.class);
        Boundary.runAll(TouchMeetings.class);
        Boundary.runAll(WayMeetings.class);
        Boundary.runAll(LongRuns.class);
        int wrong = Boundary.wrongOnes();
        System.out.println(wrong == 0 ? "all " + Boundary.testsRun() + " meetings are as told" : wrong + " answers are wrong");
        if (wrong != 0) {
            System.exit(1);
        }
    }
}
