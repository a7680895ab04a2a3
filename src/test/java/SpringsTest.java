/** Promises 20 to 22: the STEPS of SPRINGS, RUN and DO. */
public final class SpringsTest {
    private static final int NONE = Check.NONE;
    private static final int HIDDEN = Check.HIDDEN;

    public static void main(String[] args) {
        steps();
        refused();
        whatCannotBe();
        runAndPerform();
        Check.finish();
    }

    private static void steps() {
        FenceYards x = new FenceYards();
        Check.tell(x, 2, "f7; p 0 9;i3 ;n");
        int[][] wants = {{0, 7, NONE}, {1, 0, 9}, {2, 3, NONE}, {3, NONE, NONE}};
        for (int i = 0; i < 4; i++) {
            for (int what = 0; what < 3; what++) {
                Check.due("step(0, " + i + ", " + what + ")", x.step(0, i, what), wants[i][what]);
            }
            Check.due("step(0, i, 3)", x.step(0, i, 3), HIDDEN);
            Check.due("step(0, i, -1)", x.step(0, i, -1), HIDDEN);
        }
        Check.due("step(0, 4, 0)", x.step(0, 4, 0), HIDDEN);
        Check.due("step(0, -1, 0)", x.step(0, -1, 0), HIDDEN);
        Check.due("step(1, 0, 0)", x.step(1, 0, 0), HIDDEN);
        Check.due("step(-1, 0, 0)", x.step(-1, 0, 0), HIDDEN);
        Check.tape(x, "n;n;n;n;n;n;x");
        x.fault(2);
        Check.due("a fault leaves what was told", x.step(0, 0, 1), 7);
    }

    private static void refused() {
        FenceYards x = new FenceYards();
        Check.tell(x, 2, "n");
        Check.due("run without a village", x.run(0, 0), HIDDEN);
        Check.due("perform without a village", x.perform(0), NONE);
        Check.tell(x, 0, "f");
        Check.due("run(0, 0)", x.run(0, 0), NONE);
        Check.due("run(0, 1)", x.run(0, 1), 0);
        Check.due("run(0, 2)", x.run(0, 2), HIDDEN);
        Check.due("run(0, -1)", x.run(0, -1), HIDDEN);
        Check.due("run(1, 0)", x.run(1, 0), HIDDEN);
        Check.due("run(-1, 0)", x.run(-1, 0), HIDDEN);
        Check.due("perform(1)", x.perform(1), NONE);
        Check.due("perform(-1)", x.perform(-1), NONE);
        Check.due("nothing was done", x.count(14), 0);
        Check.due("perform(0)", x.perform(0), 1);
    }

    private static void dueRun(String spring, int behind, int yards) {
        FenceYards x = Check.village("sl20;fy10;fy12;wk9;wa1v0k2");
        Check.tell(x, 2, spring);
        Check.due("run(0, 0) of " + spring, x.run(0, 0), behind);
        Check.due("run(0, 1) of " + spring, x.run(0, 1), yards);
    }

    private static void whatCannotBe() {
        dueRun("f0", NONE, 12);
        dueRun("f0;f1;f0", 2, 16);
        dueRun("f2", 0, 0);
        dueRun("f9", 0, 0);
        dueRun("p00", 0, 0);
        dueRun("p01", NONE, 0);
        dueRun("p21", 0, 0);
        dueRun("p09;p02", 1, 0);
        dueRun("p09;p01;p19;p12", 3, 0);
        dueRun("p09;p01;n;n;n;n;p09;p02", 7, 0);
        dueRun("i0", 0, 0);
        dueRun("p11;i1;i1", 2, 0);
        dueRun("p11;n;i1", 2, 0);
        dueRun("p19;f0;n;n;n;n;f1;f1", 7, 7);
        dueRun("i5", 0, 0);
        dueRun("f0;p08;f1", NONE, 12);
        dueRun("f0;p09;f1", 1, 12);
        dueRun("n;n;n;n;n;n;n;n;n;n;n;n;n;n;n;n", NONE, 0);
    }

    private static void runAndPerform() {
        FenceYards x = Check.village("sl20;fy10;fy12;wk4;wa1v0k2");
        FenceYards y = Check.village("sl20;fy10;fy12;wk4;wa1v0k2");
        Check.tell(x, 2, "p12;n;f0;i1;f1;n;f1;n");
        Check.tell(y, 2, "p12;n;f0;i1;f1;n;f1;n");
        int[] before = Observed.of(x);
        Check.due("run", x.run(0, 0), 6);
        Check.due("yards of it", x.run(0, 1), 8 + 4);
        Observed.dueAlike("run changes nothing", Observed.of(x), before);
        Check.due("perform", x.perform(0), 6);
        y.paint(1, 2);
        y.day();
        y.forgive(0);
        y.inspect(1);
        y.forgive(1);
        y.day();
        Observed.dueAlike("its steps are acts", Observed.of(x), Observed.of(y));
        Check.due("six acts", x.count(14), 6);
        Check.due("two days in the log", x.count(13), 2);
        for (int i = 5; i >= 0; i--) {
            Check.due("undone one by one", x.undo(), i);
        }
        Observed.dueAlike("all undone", Observed.of(x), before);
        Check.tell(x, 2, "i0");
        Check.due("none can be", x.perform(1), 0);
        Check.due("no act", x.count(14), 0);
    }
}
