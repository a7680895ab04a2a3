import java.util.NoSuchElementException;
import java.util.function.Supplier;
import java.util.function.ToLongFunction;

/**
 * Calls that change nothing: an object that was called so is compared with one that was not, in all that can be seen
 * now, behind undoing, and behind going back. Each look has objects of its own, so that none has over 512 calls.
 */
final class Unchanged {
    /** Told for a call that threw NoSuchElementException. */
    static final long THROWN = Long.MIN_VALUE;

    private interface Look {
        int[] at(FenceYards x);
    }

    private static final Look[] LOOKS = {Observed::of, Observed::texts, Unchanged::undoneOnce, Unchanged::undoneAll,
        Unchanged::wentBack};

    private Unchanged() {
    }

    /** The call answers so on such an object, and changes nothing. */
    static void due(String name, Supplier<FenceYards> made, ToLongFunction<FenceYards> call, long want) {
        Check.due(name, answer(made.get(), call), want);
        for (int i = 0; i < LOOKS.length; i++) {
            FenceYards called = made.get();
            answer(called, call);
            Observed.dueAlike(name + " changes nothing, look " + i, LOOKS[i].at(called), LOOKS[i].at(made.get()));
        }
    }

    static long answer(FenceYards x, ToLongFunction<FenceYards> call) {
        try {
            return call.applyAsLong(x);
        } catch (NoSuchElementException e) {
            return THROWN;
        }
    }

    private static int[] undoneOnce(FenceYards x) {
        x.undo();
        return Observed.of(x);
    }

    private static int[] undoneAll(FenceYards x) {
        for (int i = 0; i < 41; i++) {
            x.undo();
        }
        return Observed.of(x);
    }

    private static int[] wentBack(FenceYards x) {
        x.back();
        return Observed.of(x);
    }

    /** A village in which much has been told and done: three farms, four told wrongs, one law, two springs. */
    static FenceYards busy() {
        FenceYards x = Check.village("sl60c30;fy12g2;fy9g6;fy40g0;w;wa2v1k9;wa1v0k2;wa0v2k5");
        Check.rule(x, "y:k+n*3+1");
        Check.tell(x, 2, "f2;n;p05;i0");
        Check.tell(x, 2, "n");
        x.apples(6);
        x.seen(1, 6, true);
        x.seen(0, 5, false);
        x.paint(0, 5);
        x.day();
        x.forgive(1);
        x.image();
        x.sin(1, 2, 7);
        x.paint(2, 9);
        x.buy(4);
        x.day();
        Check.tape(x, "f;f;w");
        return x;
    }
}
