import java.util.function.Supplier;
import java.util.function.ToLongFunction;

/** Boundary cases of SPRINGS: their text (Terms, part 1), and promises 20 to 22 (step, run, perform). */
public final class SpringBoundsTest {
    private static final int NONE = Check.NONE;
    private static final int HIDDEN = Check.HIDDEN;

    public static void main(String[] args) {
        oneToSixteenSteps();
        seventeenthStep();
        digitsOfSteps();
        endsTooEarly();
        everyByteBehind();
        blanks();
        whatIsNotThereIsNoFault();
        stepsOfOne();
        stepsOfSixteen();
        stepRefused();
        stepWithoutADigit();
        runRefused();
        runOfTheFirst();
        runOfTheLast();
        runOfAll();
        runForgiving();
        runPainting();
        runInspecting();
        runDays();
        runLimeRunsOut();
        runChangesNothing();
        performRefused();
        performNone();
        performSome();
        performAll();
        performDays();
        performLogs();
        Check.finish();
    }

    private static void dueFault(String text, int want) {
        Check.dueFault(2, text, want);
    }

    private static void dueFine(String text) {
        Check.dueFault(2, text, NONE);
    }

    private static String days(int count) {
        return "n" + ";n".repeat(count - 1);
    }

    private static void oneToSixteenSteps() {
        dueFault("", 0);
        dueFault("  ", 2);
        for (int steps = 1; steps <= 16; steps++) {
            dueFine(days(steps));
        }
        dueFine(days(15) + ";p12");
        dueFine(days(16) + "   ");
    }

    private static void seventeenthStep() {
        dueFault(days(17), 31);
        dueFault(days(16) + ";", 31);
        dueFault(days(16) + "  ;n", 33);
        dueFault(days(16) + ";x", 31);
        dueFault(days(16) + ";;", 31);
        dueFault("p00" + ";p00".repeat(16), 63);
        dueFault(days(15) + ";", 30);
        dueFault(days(15) + ";x", 30);
        dueFault(days(20), 31);
    }

    private static void digitsOfSteps() {
        for (int digit = 0; digit < 10; digit++) {
            dueFine("f" + digit);
            dueFine("i" + digit);
            dueFine("p" + digit + (9 - digit));
        }
        dueFault("f00", 2);
        dueFault("i00", 2);
        dueFault("p000", 3);
        dueFault("n0", 1);
        dueFault("p0;n", 2);
    }

    private static void endsTooEarly() {
        String[] texts = {"f", "i", "p", "p0", "n;", "f0;", "f ", "p0 ", "n;f", "n ; "};
        for (String text : texts) {
            dueFault(text, text.length());
        }
    }

    private static void dueNext(String head, String goesOn) {
        for (int sign = 1; sign < 256; sign++) {
            boolean wrong = Check.faultOf(2, head + (char) sign) == head.length();
            Check.due("\"" + head + "\" goes on with " + sign, !wrong, goesOn.indexOf(sign) >= 0);
        }
    }

    private static void everyByteBehind() {
        dueNext("", "fpin ");
        dueNext("f", "0123456789 ");
        dueNext("i", "0123456789 ");
        dueNext("p", "0123456789 ");
        dueNext("p3", "0123456789 ");
        dueNext("p3 ", "0123456789 ");
        dueNext("p34", "; ");
        dueNext("f3", "; ");
        dueNext("i3", "; ");
        dueNext("n", "; ");
        dueNext("n;", "fpin ");
        dueNext(days(16), " ");
    }

    private static void blanks() {
        FenceYards x = new FenceYards();
        Check.due("told", Check.tell(x, 2, "  f  7  ;  p  1  2  ;  i  3  ;  n  "), 0);
        Check.dueRow("as without blanks",
            new int[] {x.step(0, 0, 1), x.step(0, 1, 1), x.step(0, 1, 2), x.step(0, 2, 1)}, 7, 1, 2, 3);
        dueFault("f 1 2", 4);
        dueFault("p 1 2 3", 6);
        dueFault("n" + (char) 9, 1);
    }

    private static void whatIsNotThereIsNoFault() {
        dueFine("f9");
        dueFine("p99");
        dueFine("p00");
        dueFine("i9");
        dueFine("f0;f0;f0");
    }

    private static FenceYards spring(String text) {
        FenceYards x = new FenceYards();
        Check.due("spring " + text, Check.tell(x, 2, text), 0);
        return x;
    }

    private static void stepsOfOne() {
        FenceYards x = spring("p90");
        Check.dueRow("its step", new int[] {x.step(0, 0, 0), x.step(0, 0, 1), x.step(0, 0, 2)}, 1, 9, 0);
        Check.due("a second", x.step(0, 1, 0), HIDDEN);
    }

    private static void stepsOfSixteen() {
        FenceYards x = spring("f0;i1;f2;i3;f4;i5;f6;i7;f8;i9;f0;i1;f2;i3;f4;p56");
        for (int i = 0; i < 15; i++) {
            Check.due("what of " + i, x.step(0, i, 0), i % 2 == 0 ? 0 : 2);
            Check.due("digit of " + i, x.step(0, i, 1), i % 10);
        }
        Check.dueRow("the sixteenth", new int[] {x.step(0, 15, 0), x.step(0, 15, 1), x.step(0, 15, 2)}, 1, 5, 6);
        Check.due("a seventeenth", x.step(0, 16, 0), HIDDEN);
    }

    private static void onBusy(String name, ToLongFunction<FenceYards> call, long want) {
        Unchanged.due(name, Unchanged::busy, call, want);
    }

    private static void stepRefused() {
        onBusy("step(-1, 0, 0)", x -> x.step(-1, 0, 0), HIDDEN);
        onBusy("step(2, 0, 0)", x -> x.step(2, 0, 0), HIDDEN);
        onBusy("step(1, 0, 0)", x -> x.step(1, 0, 0), 3);
        onBusy("step(0, -1, 0)", x -> x.step(0, -1, 0), HIDDEN);
        onBusy("step(0, 3, 0)", x -> x.step(0, 3, 0), 2);
        onBusy("step(0, 4, 0)", x -> x.step(0, 4, 0), HIDDEN);
        onBusy("step(1, 1, 0)", x -> x.step(1, 1, 0), HIDDEN);
        onBusy("step(0, 0, -1)", x -> x.step(0, 0, -1), HIDDEN);
        onBusy("step(0, 0, 3)", x -> x.step(0, 0, 3), HIDDEN);
        onBusy("step of the lowest", x -> x.step(Integer.MIN_VALUE, 0, 0), HIDDEN);
        onBusy("step of the highest", x -> x.step(Integer.MAX_VALUE, 0, 0), HIDDEN);
        onBusy("step at the lowest", x -> x.step(0, Integer.MIN_VALUE, 0), HIDDEN);
        onBusy("step at the highest", x -> x.step(0, Integer.MAX_VALUE, 0), HIDDEN);
        FenceYards four = new FenceYards();
        for (int i = 0; i < 4; i++) {
            Check.tell(four, 2, "f" + i);
        }
        Check.due("step of the fourth spring", four.step(3, 0, 1), 3);
        Check.due("step of a fifth", four.step(4, 0, 1), HIDDEN);
    }

    private static void stepWithoutADigit() {
        FenceYards x = spring("n;f0;i0;p00");
        Check.dueRow("digits", new int[] {x.step(0, 0, 1), x.step(0, 1, 1), x.step(0, 2, 1), x.step(0, 3, 1)},
            NONE, 0, 0, 0);
        Check.dueRow("second digits", new int[] {x.step(0, 0, 2), x.step(0, 1, 2), x.step(0, 2, 2), x.step(0, 3, 2)},
            NONE, NONE, NONE, 0);
    }

    private static void runRefused() {
        onBusy("run(-1, 0)", x -> x.run(-1, 0), HIDDEN);
        onBusy("run(2, 0)", x -> x.run(2, 0), HIDDEN);
        onBusy("run(0, -1)", x -> x.run(0, -1), HIDDEN);
        onBusy("run(0, 2)", x -> x.run(0, 2), HIDDEN);
        onBusy("run of the highest", x -> x.run(Integer.MAX_VALUE, 0), HIDDEN);
        Unchanged.due("run(0, 0) without a village", () -> spring("n"), x -> x.run(0, 0), HIDDEN);
        Unchanged.due("run(0, 1) without a village", () -> spring("n"), x -> x.run(0, 1), HIDDEN);
    }

    private static void dueRun(String village, String spring, int behind, int yards) {
        Supplier<FenceYards> made = () -> {
            FenceYards x = Check.village(village);
            Check.tell(x, 2, spring);
            return x;
        };
        Unchanged.due("run(0, 0) of " + spring, made, x -> x.run(0, 0), behind);
        Unchanged.due("run(0, 1) of " + spring, made, x -> x.run(0, 1), yards);
        Check.due("perform(0) of " + spring, made.get().perform(0), behind == NONE ? steps(made.get()) : behind);
    }

    private static int steps(FenceYards x) {
        int steps = 0;
        while (x.step(0, steps, 0) != HIDDEN) {
            steps++;
        }
        return steps;
    }

    private static final String TWO = "sl20c9;fy10;fy12;wk9;wa1v0k2";

    private static void runOfTheFirst() {
        dueRun(TWO, "i0;f0;f1", 0, 0);
        dueRun(TWO, "f9", 0, 0);
    }

    private static void runOfTheLast() {
        dueRun(TWO, "f0;f0", 1, 12);
        dueRun(TWO, days(15) + ";f2", 15, 0);
    }

    private static void runOfAll() {
        dueRun(TWO, "n", NONE, 0);
        dueRun(TWO, "f0;f1", NONE, 16);
        dueRun(TWO, days(15) + ";f1", NONE, 4);
    }

    private static void runForgiving() {
        String nine = "sl99;f;fy40g9;wk1;wk1;wk1;wk1;wk1;wk1;wk1;wk1;wk9";
        dueRun(nine, "f8", NONE, 16);
        dueRun(nine, "f0", NONE, 0);
        dueRun(nine, "f9", 0, 0);
        dueRun(nine, "f8;f8", 1, 16);
        dueRun("f;f", "f0", 0, 0);
    }

    private static void runPainting() {
        dueRun(TWO, "p00", 0, 0);
        dueRun(TWO, "p01", NONE, 0);
        dueRun(TWO, "p09", NONE, 0);
        dueRun(TWO, "p09;p01", NONE, 0);
        dueRun(TWO, "p09;p02", 1, 0);
        dueRun(TWO, "p19", NONE, 0);
        dueRun(TWO, "p21", 0, 0);
        dueRun("f;f;f;f;f;f", "p51", NONE, 0);
        dueRun("f;f;f;f;f;f", "p61", 0, 0);
    }

    private static void runInspecting() {
        dueRun(TWO, "i0", 0, 0);
        dueRun(TWO, "p01;i0", NONE, 0);
        dueRun(TWO, "p01;i0;i0", 2, 0);
        dueRun(TWO, "p01;n;i0", 2, 0);
        dueRun(TWO, "p02;n;i0", NONE, 0);
        dueRun(TWO, "i2", 0, 0);
    }

    private static FenceYards at(int day, String spring) {
        FenceYards x = Days.at("f;f", day);
        Check.tell(x, 2, spring);
        return x;
    }

    /** No day goes by behind 999, in RUN neither. */
    private static void runDays() {
        Check.due("one day at 998", at(998, "n").run(0, 0), NONE);
        Check.due("two days at 998", at(998, "n;n").run(0, 0), 1);
        Check.due("two days at 997", at(997, "n;n").run(0, 0), NONE);
        Check.due("one day at 999", at(999, "n").run(0, 0), 0);
        Check.due("another step at 999", at(999, "p01").run(0, 0), NONE);
        Check.due("one behind a last day", at(998, "n;p01;n").run(0, 0), 2);
        Check.due("sixteen days at 983", at(983, days(16)).run(0, 0), NONE);
        Check.due("sixteen days at 984", at(984, days(16)).run(0, 0), 15);
    }

    private static void runLimeRunsOut() {
        dueRun("sl9;fy40;fy40", "p09", NONE, 0);
        dueRun("sl9;fy40;fy40", "p09;p11", 1, 0);
        dueRun("sl8;fy40;fy40", "p09", 0, 0);
        dueRun("sl5;fy40;fy40g0;wk9;wk9", "f0;f1", NONE, 5);
        dueRun("sl0;fy40;fy40g0;wk9;wk9", "f0;f1;p01", 2, 0);
    }

    private static void runChangesNothing() {
        onBusy("run(0, 0)", x -> x.run(0, 0), NONE);
        onBusy("run(0, 1)", x -> x.run(0, 1), 3);
        onBusy("run(1, 0)", x -> x.run(1, 0), NONE);
        onBusy("run(1, 1)", x -> x.run(1, 1), 0);
    }

    private static void performRefused() {
        onBusy("perform(-1)", x -> x.perform(-1), NONE);
        onBusy("perform(2)", x -> x.perform(2), NONE);
        onBusy("perform of the lowest", x -> x.perform(Integer.MIN_VALUE), NONE);
        onBusy("perform of the highest", x -> x.perform(Integer.MAX_VALUE), NONE);
        Unchanged.due("perform(0) without a village", () -> spring("n"), x -> x.perform(0), NONE);
    }

    private static void performNone() {
        Supplier<FenceYards> made = () -> {
            FenceYards x = Unchanged.busy();
            Check.tell(x, 2, "f8;n");
            return x;
        };
        Unchanged.due("perform of a first that can't be", made, x -> x.perform(2), 0);
    }

    private static void performSome() {
        FenceYards x = Check.village(TWO);
        Check.tell(x, 2, "f0;p01;i0;f0;n;n");
        Check.due("up to the first that can't be", x.perform(0), 3);
        Check.due("three acts", x.count(14), 3);
        Check.due("no day", x.count(6), 0);
        Check.due("COINS less by one", x.count(8), 8);
        Check.due("undone one by one", x.undo(), 2);
        Check.due("the inspection alone", x.farm(0, 3), 1);
    }

    private static void performAll() {
        FenceYards x = Check.village("sl99c50;fy40");
        Check.tell(x, 2, "p01" + ";p01".repeat(15));
        Check.due("sixteen steps", x.perform(0), 16);
        Check.due("sixteen acts", x.count(14), 16);
        Check.due("FALSE", x.farm(0, 3), 16);
        x.perform(0);
        Check.due("thirty-two acts", x.count(14), 32);
        Check.due("eight more are bare", x.perform(0), 8);
        Check.due("forty acts", x.count(14), 40);
        Check.due("nothing is bare", x.perform(0), 0);
    }

    private static void performDays() {
        Check.due("one day at 998", at(998, "n").perform(0), 1);
        FenceYards x = at(998, "n;n");
        Check.due("two days at 998", x.perform(0), 1);
        Check.due("DAY 999", x.count(6), 999);
        Check.due("none at 999", x.perform(0), 0);
        Check.due("DAY 999 still", x.count(6), 999);
        Check.due("sixteen days at 983", at(983, days(16)).perform(0), 16);
        Check.due("sixteen days at 984", at(984, days(16)).perform(0), 15);
    }

    private static void performLogs() {
        FenceYards x = Check.village("sl20;fy10");
        Check.tell(x, 2, "p05;n;n;p01;n");
        x.perform(0);
        Check.due("LOG", x.count(13), 3);
        Check.dueRow("what came through", new int[] {x.log(2, 1), x.log(1, 1), x.log(0, 1)}, 3, 1, 1);
        x.undo();
        Check.due("LOG behind undoing a day", x.count(13), 2);
        x.undo();
        Check.due("LOG behind undoing painting", x.count(13), 2);
    }
}
