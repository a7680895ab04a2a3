import java.util.ArrayList;
import java.util.List;

/** All that can be asked of an object without changing it. */
final class Observed {
    private static final int COUNTS = 15;
    private static final int ACTS = 14;

    private Observed() {
    }

    static int[] of(FenceYards x) {
        List<Integer> answers = new ArrayList<>();
        for (int what = 0; what < COUNTS; what++) {
            answers.add(x.count(what));
        }
        for (int farm = 0; farm < x.count(0); farm++) {
            for (int what = 0; what < 6; what++) {
                answers.add(x.farm(farm, what));
            }
            answers.add(x.score(farm, 0));
            answers.add(x.score(farm, 1));
        }
        for (int place = 0; place < 9; place++) {
            for (int what = 0; what < 4; what++) {
                answers.add(x.wrong(place, what));
            }
        }
        for (int i = 0; i < x.count(13); i++) {
            for (int what = 0; what < 3; what++) {
                answers.add(x.log(i, what));
            }
        }
        for (int what = 0; what < 13; what++) {
            answers.add(x.all(what));
        }
        for (int told = 0; told < x.count(1); told++) {
            answers.add(x.weights(told, FenceYards.NONE));
            answers.add(x.ask(told));
        }
        return row(answers);
    }

    /** What the tape and the springs say. */
    static int[] texts(FenceYards x) {
        List<Integer> answers = new ArrayList<>();
        for (int sort = 0; sort < 3; sort++) {
            answers.add(x.fault(sort));
        }
        for (int spring = 0; spring < x.count(3); spring++) {
            for (int i = 0; i < 16; i++) {
                for (int what = 0; what < 3; what++) {
                    answers.add(x.step(spring, i, what));
                }
            }
        }
        return row(answers);
    }

    private static int[] row(List<Integer> answers) {
        int[] row = new int[answers.size()];
        for (int i = 0; i < row.length; i++) {
            row[i] = answers.get(i);
        }
        return row;
    }

    static void dueAlike(String name, int[] got, int[] want) {
        Check.due(name + ": how much is told", got.length, want.length);
        for (int i = 0; i < Math.min(got.length, want.length); i++) {
            Check.due(name + " [" + i + "]", got[i], want[i]);
        }
    }

    static void dueAlikeButActs(String name, int[] got, int[] want) {
        int[] other = want.clone();
        other[ACTS] = got[ACTS];
        dueAlike(name, got, other);
    }

    /** Alike but for one of the counts, and for APPLES. */
    static void dueAlike(String name, FenceYards got, FenceYards want, int but) {
        int[] a = of(got);
        int[] b = of(want);
        b[but] = a[but];
        b[11] = a[11];
        dueAlike(name, a, b);
    }
}
