/** Promises 39 to 41: images, going back, and the counts. */
public final class ImagesTest {
    private static final int NONE = Check.NONE;

    public static void main(String[] args) {
        backAgain();
        theLatestImage();
        whatStays();
        logBehindManyDays();
        counts();
        Check.finish();
    }

    private static void backAgain() {
        FenceYards x = new FenceYards();
        Check.due("no village, no image", x.image(), NONE);
        Check.tell(x, 0, "sl60;f;fy7;fy20;w;wa2v1k5;wa1v2k2");
        Check.due("no image yet", x.back(), NONE);
        x.paint(2, 7);
        x.day();
        x.forgive(1);
        int[] then = Observed.of(x);
        Check.due("image", x.image(), 1);
        Check.due("an image is no act", x.count(14), 3);
        x.forgive(0);
        x.sin(2, 0, 8);
        x.day();
        x.day();
        x.inspect(2);
        x.buy(9);
        Check.due("back", x.back(), 1);
        Observed.dueAlikeButActs("as it was", Observed.of(x), then);
        Check.due("no act can be undone", x.undo(), NONE);
        Check.due("no acts", x.count(14), 0);
        x.day();
        x.give(3);
        Check.due("undone behind it", x.undo(), 1);
        Check.due("back once more", x.back(), 1);
        Observed.dueAlikeButActs("as it was once more", Observed.of(x), then);
    }

    private static void theLatestImage() {
        FenceYards x = Check.village("f;f;w");
        x.image();
        x.day();
        Check.due("an image instead", x.image(), 1);
        x.day();
        Check.due("the latest", x.back(), 1);
        Check.tell(x, 0, "f;f");
        Check.due("none of this village", x.back(), NONE);
        Check.due("DAY 0", x.count(6), 0);
    }

    private static void whatStays() {
        FenceYards x = Check.village("f;f;w");
        x.image();
        x.apples(8);
        Check.rule(x, "y:1");
        Check.tell(x, 2, "n");
        x.seen(0, 4, true);
        Check.tape(x, "f;f");
        x.day();
        Check.due("back", x.back(), 0);
        Check.due("LAWS", x.count(2), 1);
        Check.due("SPRINGS", x.count(3), 1);
        Check.due("TAPE", x.count(4), 3);
        Check.due("which holds", x.count(5), 0);
        Check.due("APPLES", x.count(11), 8);
        Check.due("SEEN", x.count(12), 1);
    }

    private static void logBehindManyDays() {
        FenceYards x = Check.village("sl99c99;fy40;fy2");
        for (int day = 0; day < 75; day++) {
            if (day % 4 == 0) {
                x.forgive(x.sin(0, 1, 5));
            }
            x.paint(0, day % 3 + 1);
            x.day();
            x.give(2);
            x.buy(2);
        }
        int[] then = Observed.of(x);
        x.image();
        for (int i = 0; i < 5; i++) {
            x.years(30, i);
        }
        Check.due("DAY 225", x.count(6), 225);
        Check.due("back", x.back(), 75);
        Observed.dueAlikeButActs("with its log", Observed.of(x), then);
        int[] soon = null;
        for (int i = 0; i < 45; i++) {
            soon = i == 5 ? Observed.of(x) : soon;
            x.day();
        }
        for (int i = 0; i < 40; i++) {
            x.undo();
        }
        Observed.dueAlikeButActs("undone behind it", Observed.of(x), soon);
    }

    private static void counts() {
        FenceYards x = Check.village("sl30c40;f;f;f;w;wa2v1");
        x.paint(0, 6);
        x.day();
        x.forgive(1);
        Check.tape(x, "abc");
        int[] wants = {3, 2, 0, 0, 3, NONE, 1, 18, 40, 1, 3, 4, 0, 1, 3};
        for (int what = 0; what < wants.length; what++) {
            Check.due("count(" + what + ")", x.count(what), wants[what]);
        }
        Check.due("count(15)", x.count(15), Check.HIDDEN);
        Check.due("count(-1)", x.count(-1), Check.HIDDEN);
    }
}
