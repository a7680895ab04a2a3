import java.util.function.Supplier;
import java.util.function.ToLongFunction;

/** Boundary cases of promises 39 to 41: images, going back, counts; and an object's 512 calls. */
public final class ImageBoundsTest {
    private static final int NONE = Check.NONE;
    private static final int HIDDEN = Check.HIDDEN;

    public static void main(String[] args) {
        imageChangesNothing();
        imageOfTheFirstAndLastDay();
        imageInsteadOfTheOneAhead();
        backWithoutAnImage();
        backOfAnotherVillage();
        backBehindARefusedVillage();
        backOfAllThatIsKept();
        backOfTheLastFarm();
        backTwice();
        backUndoesNoMore();
        backToALaterDay();
        backWithALogOfNone();
        backWithAFullLog();
        backWithAllOfALog();
        backThenDaysUndone();
        imageThenUndone();
        whatAnImageDoesNotKeep();
        countsAtTheirEnds();
        countRefused();
        for512Calls();
        Check.finish();
    }

    private static Supplier<FenceYards> of(String village) {
        return () -> Check.village(village);
    }

    private static void imageChangesNothing() {
        Unchanged.due("the same image again", ImageBoundsTest::imaged, x -> x.image(), 2);
        FenceYards x = imaged();
        Check.due("ACTS stay", x.count(14), Unchanged.busy().count(14));
        Check.due("undone behind an image", x.undo(), Unchanged.busy().undo());
    }

    private static FenceYards imaged() {
        FenceYards x = Unchanged.busy();
        x.image();
        return x;
    }

    private static void imageOfTheFirstAndLastDay() {
        FenceYards x = Check.village("f");
        Check.due("on day 0", x.image(), 0);
        x.day();
        Check.due("back on day 0", x.back(), 0);
        FenceYards late = Days.at("f", 999);
        Check.due("on day 999", late.image(), 999);
        late.undo();
        Check.due("undone", late.count(6), 998);
        Check.due("back on day 999", late.back(), 999);
        Check.due("no day goes by then", late.day(), NONE);
    }

    private static void imageInsteadOfTheOneAhead() {
        FenceYards x = Check.village("sc1;f");
        x.image();
        x.give(10);
        x.image();
        x.give(20);
        x.back();
        Check.due("the latest", x.count(8), 11);
        x.undo();
        Check.due("the latest again", x.back(), 0);
        Check.due("its coins", x.count(8), 11);
    }

    private static void backWithoutAnImage() {
        Unchanged.due("back of a new object", FenceYards::new, x -> x.back(), NONE);
        Unchanged.due("back without an image", of("f;f;w"), x -> x.back(), NONE);
        Unchanged.due("back without an image behind acts", () -> {
            FenceYards x = Check.village("f;f;w");
            x.forgive(0);
            x.day();
            return x;
        }, x -> x.back(), NONE);
    }

    private static void backOfAnotherVillage() {
        Supplier<FenceYards> made = () -> {
            FenceYards x = imaged();
            Check.due("another village", x.text(0), 2);
            x.give(5);
            return x;
        };
        Unchanged.due("an image of another village", made, x -> x.back(), NONE);
        Supplier<FenceYards> same = () -> {
            FenceYards x = Check.village("f;f;w");
            x.image();
            Check.tell(x, 0, "f;f;w");
            x.day();
            return x;
        };
        Unchanged.due("an image of the same text told ahead", same, x -> x.back(), NONE);
    }

    private static void backBehindARefusedVillage() {
        FenceYards x = Check.village("sc7;f;f;w");
        x.image();
        x.give(9);
        Check.due("a fault", Check.tell(x, 0, "f;f;wv0"), NONE);
        Check.due("the image is there", x.back(), 0);
        Check.due("its coins", x.count(8), 7);
    }

    private static void backOfAllThatIsKept() {
        int[] then = Observed.of(imaged());
        FenceYards x = imaged();
        x.forgive(0);
        x.forgive(2);
        x.sin(2, 0, 9);
        x.paint(0, 3);
        x.inspect(2);
        x.buy(3);
        x.give(8);
        x.years(5, 123);
        Check.due("back", x.back(), 2);
        Observed.dueAlikeButActs("as it was", Observed.of(x), then);
    }

    private static void backOfTheLastFarm() {
        FenceYards x = Check.village("sl99;f;f;f;f;f;fy8;w;w;w;w;w;w;w;wv5;wa5v4k9");
        x.forgive(7);
        x.forgive(8);
        x.day();
        x.paint(5, 1);
        x.paint(3, 5);
        x.sin(5, 0, 7);
        x.sin(4, 5, 8);
        x.image();
        int[] then = Observed.of(x);
        Check.due("WHITE in the LOG", x.log(0, 0), 0b010000);
        x.forgive(7);
        x.forgive(8);
        x.day();
        x.day();
        x.paint(5, 1);
        x.day();
        x.back();
        Observed.dueAlikeButActs("as it was", Observed.of(x), then);
    }

    private static void backTwice() {
        FenceYards x = imaged();
        Check.due("back at once", x.back(), 2);
        Check.due("back again", x.back(), 2);
        Observed.dueAlikeButActs("as it was", Observed.of(x), Observed.of(imaged()));
    }

    private static void backUndoesNoMore() {
        FenceYards x = imaged();
        x.give(1);
        x.back();
        Check.due("no ACTS", x.count(14), 0);
        Check.due("none is undone", x.undo(), NONE);
        x.give(1);
        Check.due("one act behind it", x.count(14), 1);
        Check.due("it is undone", x.undo(), 0);
        Check.due("no more", x.undo(), NONE);
    }

    /** The image is of a later day than now. */
    private static void backToALaterDay() {
        FenceYards x = Days.at("sl0;f", 30);
        x.image();
        for (int i = 0; i < 30; i++) {
            x.undo();
        }
        Check.due("DAY 0", x.count(6), 0);
        Check.due("no LOG", x.count(13), 0);
        x.paint(0, 1);
        x.day();
        Check.due("back", x.back(), 30);
        Check.due("LOG", x.count(13), 30);
        for (int i = 0; i < 30; i++) {
            Check.due("LIME of " + i, x.log(i, 2), 3 * (30 - i));
        }
    }

    private static void backWithALogOfNone() {
        FenceYards x = Check.village("f");
        x.image();
        x.day();
        x.day();
        x.back();
        Check.due("no LOG", x.count(13), 0);
        Check.due("nothing in it", x.log(0, 2), NONE);
    }

    private static void dueLog(FenceYards x, int day) {
        Check.due("DAY", x.count(6), day);
        int most = Math.min(day, 60);
        Check.due("LOG on day " + day, x.count(13), most);
        for (int i = 0; i < most; i++) {
            Check.due("LIME of " + i + " on day " + day, x.log(i, 2), 3 * (day - i));
        }
        Check.due("none ahead", x.log(most, 2), NONE);
    }

    private static void backWithAFullLog() {
        for (int day : new int[] {59, 60, 61, 75, 100, 101, 130}) {
            FenceYards x = Days.at("sl0;f", day);
            x.image();
            Days.goOn(x, day + 150);
            x.back();
            dueLog(x, day);
        }
    }

    /** WHITE and what came through, too, when many days have been logged since. */
    private static void backWithAllOfALog() {
        FenceYards x = Check.village("sl99;fy1;f;wa1v0");
        x.apples(0);
        x.forgive(0);
        x.paint(1, 9);
        x.day();
        x.day();
        x.image();
        Days.goOn(x, 240);
        x.back();
        Check.dueRow("LOG", new int[] {x.log(1, 0), x.log(1, 1), x.log(1, 2), x.log(0, 0), x.log(0, 1), x.log(0, 2)},
            1, 5, 89, 1, 2, 89);
        Check.due("two days", x.count(13), 2);
    }

    private static void backThenDaysUndone() {
        FenceYards x = Days.at("sl0;f", 100);
        x.image();
        Days.goOn(x, 190);
        x.back();
        Days.goOn(x, 140);
        dueLog(x, 140);
        for (int i = 0; i < 40; i++) {
            x.undo();
        }
        dueLog(x, 100);
        Check.due("undone no more", x.undo(), NONE);
    }

    private static void imageThenUndone() {
        FenceYards x = Check.village("sc0;f");
        x.give(1);
        x.give(2);
        x.image();
        Check.due("undone", x.undo(), 1);
        Check.due("undone", x.undo(), 0);
        Check.due("COINS", x.count(8), 0);
        Check.due("back", x.back(), 0);
        Check.due("COINS of the image", x.count(8), 3);
        Check.due("ACTS", x.count(14), 0);
    }

    private static void whatAnImageDoesNotKeep() {
        FenceYards x = Check.village("f;f;w");
        x.seen(0, 1, true);
        x.image();
        x.seen(0, 2, true);
        x.apples(9);
        Check.rule(x, "y:1");
        Check.tell(x, 2, "n");
        Check.tape(x, "f");
        x.back();
        Check.dueRow("as now", new int[] {x.count(12), x.count(11), x.count(2), x.count(5), x.count(3), x.count(4)},
            2, 9, 1, 0, 1, 1);
    }

    private static void countsAtTheirEnds() {
        FenceYards x = Unchanged.busy();
        int[] wants = {3, 4, 1, 2, 5, 0, 2, 60 - 5 - 9 - 9 + 4, 30 - 4 + 1, 1, 3 + 1 + 5, 6, 2, 2, 7};
        for (int what = 0; what < wants.length; what++) {
            int which = what;
            Check.due("count(" + what + ")", x.count(what), wants[what]);
            Unchanged.due("count(" + what + ") asked", Unchanged::busy, y -> y.count(which), wants[what]);
        }
    }

    private static void countRefused() {
        int[] others = {-1, -2, 15, 16, 255, Integer.MIN_VALUE, Integer.MAX_VALUE, NONE, HIDDEN};
        for (int what : others) {
            ToLongFunction<FenceYards> call = x -> x.count(what);
            Unchanged.due("count(" + what + ")", Unchanged::busy, call, HIDDEN);
            Unchanged.due("new count(" + what + ")", FenceYards::new, call, HIDDEN);
        }
    }

    /** The last of 512 calls is answered like the first. */
    private static void for512Calls() {
        FenceYards x = new FenceYards();
        Check.due("call 1", x.feed('f', 0, 0, 0, 0), 1);
        Check.due("call 2", x.text(0), 1);
        for (int call = 3; call <= 512; call += 2) {
            Check.due("call " + call, x.give(1), 21);
            Check.due("call " + (call + 1), x.undo(), 0);
        }
        FenceYards y = Check.village("f");
        for (int call = 4; call <= 512; call++) {
            Check.due("call " + call, y.day(), 0);
        }
    }
}
