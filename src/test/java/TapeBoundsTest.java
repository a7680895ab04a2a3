import java.util.function.ToLongFunction;

/** Boundary cases of promises 1 to 5 and 8: no village, the tape's 240 bytes, sorts, four laws and four springs. */
public final class TapeBoundsTest {
    private static final int NONE = Check.NONE;
    private static final int HIDDEN = Check.HIDDEN;

    public static void main(String[] args) {
        newObjectCounts();
        newObjectRefusesActs();
        newObjectRefusesQuestions();
        newObjectTakesTexts();
        feedNothing();
        feedTwentyBytes();
        feedOrderOfBytes();
        feedLowestAndHighestByte();
        feedUpTo240();
        feedBeyond240();
        feedEachByteCounts();
        feedZerosToAFullTape();
        endOfAnEmptyTape();
        endOfAFullTape();
        endBeyondTheTape();
        endMakesRoom();
        faultSorts();
        faultOfAnEmptyTape();
        faultAsksOnly();
        textSorts();
        textOfAnEmptyTape();
        textOfAFault();
        textEmptiesTheTape();
        textOneToSixFarms();
        textFourLaws();
        textFourSprings();
        textReadsAfresh();
        villageDropsWhatWas();
        villageKeepsTheRest();
        refusedVillageDropsNothing();
        lawsThatHold();
        lawRefused();
        lawOfFour();
        Check.finish();
    }

    private static void onNew(String name, ToLongFunction<FenceYards> call, long want) {
        Unchanged.due("new " + name, FenceYards::new, call, want);
    }

    private static void onBusy(String name, ToLongFunction<FenceYards> call, long want) {
        Unchanged.due(name, Unchanged::busy, call, want);
    }

    private static int told(boolean answer) {
        return answer ? 1 : 0;
    }

    private static void newObjectCounts() {
        FenceYards x = new FenceYards();
        int[] wants = {0, 0, 0, 0, 0, NONE, 0, 0, 0, 0, 0, 4, 0, 0, 0};
        for (int what = 0; what < wants.length; what++) {
            Check.due("new count(" + what + ")", x.count(what), wants[what]);
        }
    }

    private static void newObjectRefusesActs() {
        onNew("forgive(0)", x -> x.forgive(0), NONE);
        onNew("paint(0, 1)", x -> x.paint(0, 1), NONE);
        onNew("inspect(0)", x -> x.inspect(0), NONE);
        onNew("sin(0, 1, 1)", x -> x.sin(0, 1, 1), NONE);
        onNew("buy(1)", x -> x.buy(1), NONE);
        onNew("give(1)", x -> x.give(1), NONE);
        onNew("day()", x -> x.day(), NONE);
        onNew("years(1, 1)", x -> x.years(1, 1), NONE);
        onNew("undo()", x -> x.undo(), NONE);
        onNew("perform(0)", x -> x.perform(0), NONE);
        onNew("seen(0, 0, true)", x -> x.seen(0, 0, true), NONE);
        onNew("image()", x -> x.image(), NONE);
        onNew("back()", x -> x.back(), NONE);
    }

    private static void newObjectRefusesQuestions() {
        onNew("farm(0, 0)", x -> x.farm(0, 0), Unchanged.THROWN);
        onNew("wrong(0, 0)", x -> x.wrong(0, 0), NONE);
        onNew("log(0, 0)", x -> x.log(0, 0), NONE);
        onNew("step(0, 0, 0)", x -> x.step(0, 0, 0), HIDDEN);
        onNew("run(0, 0)", x -> x.run(0, 0), HIDDEN);
        onNew("least(0, 0)", x -> x.least(0, 0), NONE);
        onNew("every(0)", x -> x.every(0), NONE);
        onNew("every(1)", x -> x.every(1), NONE);
        onNew("richest(0, 0)", x -> x.richest(0, 0), NONE);
        onNew("richest(0, 1)", x -> x.richest(0, 1), NONE);
        onNew("pairs(0)", x -> x.pairs(0), NONE);
        onNew("pairs(1)", x -> x.pairs(1), NONE);
        onNew("weights(0, NONE)", x -> x.weights(0, NONE), NONE);
        onNew("ask(0)", x -> x.ask(0), NONE);
        onNew("ring()", x -> x.ring(), NONE);
        onNew("chain(0, 0)", x -> x.chain(0, 0), NONE);
        onNew("score(0, 0)", x -> x.score(0, 0), NONE);
        onNew("game(0, 1, 0, 0, 0)", x -> x.game(0, 1, 0, 0, 0), HIDDEN);
        onNew("rests(0, 1, NONE)", x -> x.rests(0, 1, NONE), NONE);
        onNew("odds(0, 0)", x -> x.odds(0, 0), NONE);
        onNew("shares(0, 0)", x -> x.shares(0, 0), NONE);
        onNew("fades(0)", x -> x.fades(0), NONE);
        for (int what = 0; what < 13; what++) {
            int which = what;
            onNew("all(" + what + ")", x -> x.all(which), NONE);
        }
    }

    /** Laws, springs and apples need no village. */
    private static void newObjectTakesTexts() {
        FenceYards x = new FenceYards();
        Check.due("a law without a village", Check.tell(x, 1, "y:1"), 0);
        Check.due("it holds", x.law(0), true);
        Check.due("a spring without a village", Check.tell(x, 2, "f3"), 0);
        Check.due("its step", x.step(0, 0, 1), 3);
        Check.due("apples without a village", x.apples(5), true);
        Check.due("run without a village", x.run(0, 0), HIDDEN);
        Check.due("perform without a village", x.perform(0), NONE);
        Check.due("then a village", Check.tell(x, 0, "f;f;w"), 2);
        Check.due("by the law that holds", x.wrong(0, 3), 1);
    }

    private static void feedNothing() {
        FenceYards x = new FenceYards();
        Check.due("nothing to an empty tape", x.feed(0, 0, 0, 0, 0), 0);
        Check.due("one byte", x.feed(0, 0, 0, 0, 'f'), 1);
        Check.due("nothing to one byte", x.feed(0, 0, 0, 0, 0), 1);
        Check.due("the byte is there still", x.fault(0), NONE);
    }

    private static void feedTwentyBytes() {
        FenceYards x = new FenceYards();
        Check.due("twenty", x.feed(-1, -1, -1, -1, -1), 20);
        Check.due("nineteen", x.feed(-1, -1, -1, -1, 0x01010100), 39);
        Check.due("one in each number", x.feed(1, 1 << 8, 1 << 16, 1 << 24, 1), 44);
    }

    private static void feedOrderOfBytes() {
        FenceYards x = new FenceYards();
        Check.due("a text of twenty bytes", Check.tape(x, "f0;f1;f2;f3;f4;f5;f6"), 20);
        Check.due("it is a spring", x.text(2), 0);
        for (int i = 0; i < 7; i++) {
            Check.due("step " + i + " in its order", x.step(0, i, 1), i);
        }
        Check.due("and no eighth", x.step(0, 7, 0), HIDDEN);
    }

    private static void feedLowestAndHighestByte() {
        FenceYards x = new FenceYards();
        Check.due("a byte of 1 comes", x.feed(1, 0, 0, 0, 0), 1);
        Check.due("a byte of 255 comes", x.feed(255 << 24, 0, 0, 0, 0), 2);
        Check.due("a byte of 128 comes", x.feed(128 << 16, 0, 0, 0, 0), 3);
        Check.due("none of them begins a text", x.fault(0), 0);
    }

    private static FenceYards fullTape() {
        FenceYards x = new FenceYards();
        StringBuilder text = new StringBuilder("f;f;w");
        while (text.length() < 240) {
            text.append(' ');
        }
        Check.due("240 bytes", Check.tape(x, text.toString()), 240);
        return x;
    }

    private static void feedUpTo240() {
        FenceYards x = fullTape();
        Check.due("a full tape is a text", x.fault(0), NONE);
        x.end(239);
        Check.due("the 240th byte", x.feed(0, 0, ' ', 0, 0), 240);
        x.end(220);
        Check.due("the last twenty", x.feed(-1, -1, -1, -1, -1), 240);
        Check.due("all of the last twenty are there", x.fault(0), 220);
        x.end(239);
        Check.due("up to the 239th it is the same", x.fault(0), 220);
    }

    private static void feedBeyond240() {
        Unchanged.due("one byte beyond 240", TapeBoundsTest::fullTape, x -> x.feed(0, 0, 0, 0, 32), NONE);
        Unchanged.due("twenty beyond 240", TapeBoundsTest::fullTape, x -> x.feed(-1, -1, -1, -1, -1), NONE);
        Unchanged.due("the first of two would do", TapeBoundsTest::almostFullTape, x -> x.feed(32, 0, 0, 0, 32), NONE);
        FenceYards x = almostFullTape();
        x.feed(' ' << 8 | ' ', 0, 0, 0, 0);
        Check.due("none of the refused bytes came", x.count(4), 239);
        Check.due("one comes still", x.feed(0, 0, 0, ' ' << 24, 0), 240);
    }

    private static FenceYards almostFullTape() {
        FenceYards x = fullTape();
        x.end(239);
        return x;
    }

    /** Any of the twenty, alone and however small, is one too many. */
    private static void feedEachByteCounts() {
        FenceYards x = fullTape();
        for (int shift = 0; shift < 32; shift += 8) {
            for (int sign : new int[] {1, 128, 255}) {
                int number = sign << shift;
                Check.due("in the first number", x.feed(number, 0, 0, 0, 0), NONE);
                Check.due("in the second", x.feed(0, number, 0, 0, 0), NONE);
                Check.due("in the third", x.feed(0, 0, number, 0, 0), NONE);
                Check.due("in the fourth", x.feed(0, 0, 0, number, 0), NONE);
                Check.due("in the fifth", x.feed(0, 0, 0, 0, number), NONE);
            }
        }
        Check.due("240 bytes still", x.count(4), 240);
        x.end(221);
        Check.due("twenty to 221", x.feed(-1, -1, -1, -1, -1), NONE);
        Check.due("nineteen to 221", x.feed(0x20202020, 0x20202020, 0x20002020, 0x20202020, 0x20202020), 240);
    }

    private static void feedZerosToAFullTape() {
        Unchanged.due("nothing to a full tape", TapeBoundsTest::fullTape, x -> x.feed(0, 0, 0, 0, 0), 240);
    }

    private static void endOfAnEmptyTape() {
        onNew("end(0)", x -> told(x.end(0)), 1);
        onNew("end(1)", x -> told(x.end(1)), 0);
        onNew("end(-1)", x -> told(x.end(-1)), 0);
    }

    private static void endOfAFullTape() {
        Unchanged.due("end(240) of 240", TapeBoundsTest::fullTape, x -> told(x.end(240)), 1);
        Unchanged.due("end(241) of 240", TapeBoundsTest::fullTape, x -> told(x.end(241)), 0);
        FenceYards x = fullTape();
        Check.due("end(239) of 240", x.end(239), true);
        Check.due("239 bytes", x.count(4), 239);
        Check.due("end(0)", x.end(0), true);
        Check.due("no bytes", x.count(4), 0);
    }

    private static void endBeyondTheTape() {
        onBusy("end(6) of 5", x -> told(x.end(6)), 0);
        onBusy("end(5) of 5", x -> told(x.end(5)), 1);
        onBusy("end(-1) of 5", x -> told(x.end(-1)), 0);
        onBusy("end of the lowest", x -> told(x.end(Integer.MIN_VALUE)), 0);
        onBusy("end of the highest", x -> told(x.end(Integer.MAX_VALUE)), 0);
        FenceYards x = Unchanged.busy();
        Check.due("end(4) of 5", x.end(4), true);
        Check.due("4 bytes", x.count(4), 4);
        Check.due("what was cut off is gone", x.end(5), false);
        Check.due("f;f; ends too early", x.fault(0), 4);
    }

    private static void endMakesRoom() {
        FenceYards x = fullTape();
        x.end(3);
        Check.due("bytes come behind the first three", x.feed(';' << 24 | 'f' << 16, 0, 0, 0, 0), 5);
        Check.due("f;f;f", x.text(0), 3);
    }

    private static void faultSorts() {
        onBusy("fault(-1)", x -> x.fault(-1), -2);
        onBusy("fault(3)", x -> x.fault(3), -2);
        onBusy("fault of the lowest", x -> x.fault(Integer.MIN_VALUE), -2);
        onBusy("fault of the highest", x -> x.fault(Integer.MAX_VALUE), -2);
        onNew("fault(-1)", x -> x.fault(-1), -2);
        onNew("fault(3)", x -> x.fault(3), -2);
    }

    private static void faultOfAnEmptyTape() {
        for (int sort = 0; sort < 3; sort++) {
            int which = sort;
            onNew("fault(" + sort + ")", x -> x.fault(which), 0);
        }
    }

    private static void faultAsksOnly() {
        onBusy("fault(0) without one", x -> x.fault(0), NONE);
        onBusy("fault(1)", x -> x.fault(1), 0);
        onBusy("fault(2)", x -> x.fault(2), 1);
    }

    private static void textSorts() {
        onBusy("text(-1)", x -> x.text(-1), NONE);
        onBusy("text(3)", x -> x.text(3), NONE);
        onBusy("text of the lowest", x -> x.text(Integer.MIN_VALUE), NONE);
        onBusy("text of the highest", x -> x.text(Integer.MAX_VALUE), NONE);
    }

    private static void textOfAnEmptyTape() {
        for (int sort = 0; sort < 3; sort++) {
            int which = sort;
            onNew("text(" + sort + ") of an empty tape", x -> x.text(which), NONE);
            Unchanged.due("text(" + sort + ") of an emptied tape", TapeBoundsTest::emptied, x -> x.text(which), NONE);
        }
    }

    private static FenceYards emptied() {
        FenceYards x = Unchanged.busy();
        x.end(0);
        return x;
    }

    private static void textOfAFault() {
        onBusy("text(1) of a village", x -> x.text(1), NONE);
        onBusy("text(2) of a village", x -> x.text(2), NONE);
        Unchanged.due("text(0) of a spring", TapeBoundsTest::springOnTape, x -> x.text(0), NONE);
    }

    private static FenceYards springOnTape() {
        FenceYards x = Unchanged.busy();
        Check.tape(x, "n;f1");
        return x;
    }

    private static void textEmptiesTheTape() {
        FenceYards x = new FenceYards();
        String[] texts = {"f", "y:k", "n"};
        for (int sort = 0; sort < 3; sort++) {
            Check.due("bytes", Check.tape(x, texts[sort]), texts[sort].length());
            Check.due("text(" + sort + ")", x.text(sort), sort == 0 ? 1 : 0);
            Check.due("the tape is empty then", x.count(4), 0);
            Check.due("so that it can't be told again", x.text(sort), NONE);
        }
    }

    private static void textOneToSixFarms() {
        StringBuilder text = new StringBuilder();
        for (int farms = 1; farms <= 6; farms++) {
            text.append(farms == 1 ? "f" : ";f");
            FenceYards x = new FenceYards();
            Check.due("a village of " + farms, Check.tell(x, 0, text.toString()), farms);
            Check.due("FARMS", x.count(0), farms);
        }
    }

    private static FenceYards withFour(int sort, String text) {
        FenceYards x = Unchanged.busy();
        while (x.count(sort + 1) < 4) {
            Check.tell(x, sort, text);
        }
        Check.tape(x, text);
        return x;
    }

    private static void textFourLaws() {
        FenceYards x = new FenceYards();
        for (int law = 0; law < 4; law++) {
            Check.due("a law's number", Check.tell(x, 1, "y:" + law), law);
            Check.due("LAWS", x.count(2), law + 1);
        }
        Check.due("a fifth", Check.tell(x, 1, "y:4"), NONE);
        Check.due("a spring all the same", Check.tell(x, 2, "n"), 0);
        Unchanged.due("a fifth law", () -> withFour(1, "y:k"), y -> y.text(1), NONE);
    }

    private static void textFourSprings() {
        FenceYards x = new FenceYards();
        for (int spring = 0; spring < 4; spring++) {
            Check.due("a spring's number", Check.tell(x, 2, "f" + spring), spring);
            Check.due("SPRINGS", x.count(3), spring + 1);
        }
        Check.due("a fifth", Check.tell(x, 2, "n"), NONE);
        Check.due("a law all the same", Check.tell(x, 1, "y:1"), 0);
        for (int spring = 0; spring < 4; spring++) {
            Check.due("the four are as told", x.step(spring, 0, 1), spring);
        }
        Unchanged.due("a fifth spring", () -> withFour(2, "n;n"), y -> y.text(2), NONE);
    }

    /** What an earlier reading met (an s, farms, wrongs, steps) is not counted again. */
    private static void textReadsAfresh() {
        FenceYards x = new FenceYards();
        Check.tape(x, "sl9c8;f;f;f;f;f;f;w;w;w;w;w;w;w;w;w");
        for (int i = 0; i < 3; i++) {
            Check.due("asked again", x.fault(0), NONE);
        }
        Check.due("told", x.text(0), 6);
        Check.due("LIME of the text", x.count(7), 9);
        Check.tape(x, "sc7;f;w;wx");
        Check.due("a fault", x.fault(0), 9);
        Check.due("a village behind it", Check.tell(x, 0, "s;f"), 1);
        Check.due("LIME without", x.count(7), 40);
        Check.due("COINS without", x.count(8), 20);
        Check.due("no told wrongs", x.count(1), 0);
        Check.tape(x, "n;n;n;n;n;n;n;n;n;n;n;n;n;n;n;n");
        Check.due("sixteen steps", x.fault(2), NONE);
        Check.due("sixteen again", x.text(2), 0);
        Check.tape(x, "y:[[[[[[k]]]]]]");
        Check.due("six deep", x.fault(1), NONE);
        Check.due("six again", x.text(1), 0);
    }

    private static void villageDropsWhatWas() {
        FenceYards x = Unchanged.busy();
        x.forgive(0);
        Check.due("BROWN of the one ahead", x.count(10) > 0, true);
        Check.due("a village instead", x.text(0), 2);
        int[] wants = {2, 1, 1, 2, 0, 0, 0, 40, 20, 0, 0, 6, 0, 0, 0};
        for (int what = 0; what < wants.length; what++) {
            Check.due("count(" + what + ") of the one instead", x.count(what), wants[what]);
        }
        Check.due("no act", x.undo(), NONE);
        Check.due("no image", x.back(), NONE);
        Check.due("no log", x.log(0, 0), NONE);
        Check.due("one wrong", x.all(9), 1);
        Check.due("no true white", x.all(11), 0);
        Check.due("no false white", x.all(12), 0);
        Check.due("none was forgiven", x.farm(0, 5) + x.farm(1, 5), 0);
        Check.due("nothing was seen", x.weights(0, NONE), 9);
        Check.dueNoFarm(x, 2, 0);
    }

    private static void villageKeepsTheRest() {
        FenceYards x = Unchanged.busy();
        x.text(0);
        Check.due("the law that holds", x.count(5), 0);
        Check.due("yards by it", x.wrong(0, 3), 4);
        Check.due("the springs", x.step(0, 2, 2), 5);
        Check.due("APPLES", x.count(11), 6);
    }

    private static void refusedVillageDropsNothing() {
        Unchanged.due("a village with a fault", TapeBoundsTest::faultOnTape, x -> x.text(0), NONE);
    }

    private static FenceYards faultOnTape() {
        FenceYards x = Unchanged.busy();
        Check.tape(x, "sl1c1;fy1g1;fy2g2;wa0v1k9;wv6");
        return x;
    }

    private static void lawsThatHold() {
        FenceYards x = Check.village("f;f;w");
        Check.due("none of none", x.law(NONE), true);
        Check.due("none holds", x.count(5), NONE);
        Check.tell(x, 1, "y:2");
        Check.due("the only one", x.law(0), true);
        Check.due("it holds", x.count(5), 0);
        Check.due("the same once more", x.law(0), true);
        Check.due("none", x.law(NONE), true);
        Check.due("none again", x.law(NONE), true);
        Check.due("none holds then", x.count(5), NONE);
        Check.due("yards by none", x.wrong(0, 3), 6);
    }

    private static void lawRefused() {
        onNew("law(0)", x -> told(x.law(0)), 0);
        onNew("law(-2)", x -> told(x.law(-2)), 0);
        onBusy("law(1) of one", x -> told(x.law(1)), 0);
        onBusy("law(-2)", x -> told(x.law(-2)), 0);
        onBusy("law of the lowest", x -> told(x.law(Integer.MIN_VALUE)), 0);
        onBusy("law of the highest", x -> told(x.law(Integer.MAX_VALUE)), 0);
        onBusy("law(0) holds already", x -> told(x.law(0)), 1);
    }

    private static void lawOfFour() {
        FenceYards x = Check.village("f;f;w");
        for (int law = 0; law < 4; law++) {
            Check.tell(x, 1, "y:" + (law + 1));
        }
        for (int law = 0; law < 4; law++) {
            Check.due("law(" + law + ")", x.law(law), true);
            Check.due("yards by it", x.wrong(0, 3), law + 1);
        }
        Check.due("law(4)", x.law(4), false);
        Check.due("the fourth holds still", x.wrong(0, 3), 4);
    }
}
