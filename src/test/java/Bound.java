import java.util.ArrayList;
import java.util.List;
import java.util.function.Supplier;
import java.util.function.ToIntFunction;

/** Calls at a bound and one beyond it; what is refused leaves all that any later call could show. */
final class Bound {
    /** A call with one of its numbers left open. */
    interface Open {
        int on(ShadowAlms x, int number);
    }

    private Bound() {
    }

    /**
     * The numbers from least to greatest are taken, at both ends; one beyond each end, and the ends of int, are refused
     * as told. Each number meets an object of its own.
     */
    static void between(String name, Supplier<ShadowAlms> made, int least, int greatest, int refusal, Open call) {
        taken(name + " " + least, call.on(made.get(), least));
        taken(name + " " + greatest, call.on(made.get(), greatest));
        for (long beyond : new long[] {least - 1L, greatest + 1L, Integer.MIN_VALUE, Integer.MAX_VALUE}) {
            boolean isInt = beyond == (int) beyond;
            if (isInt && (beyond < least || beyond > greatest)) {
                refused(name + " " + beyond, made, refusal, x -> call.on(x, (int) beyond));
            }
        }
    }

    static void taken(String name, int got) {
        Due.is(name + " is refused", got >= Due.FULL && got <= Due.UNKNOWN ? got : 0, 0);
    }

    static void refused(String name, Supplier<ShadowAlms> made, int refusal, ToIntFunction<ShadowAlms> call) {
        ShadowAlms touched = made.get();
        Due.is(name, call.applyAsInt(touched), refusal);
        same(name, touched, made.get());
    }

    /** A call that only looks or tries leaves all as it was. */
    static void changesNothing(String name, Supplier<ShadowAlms> made, ToIntFunction<ShadowAlms> call) {
        ShadowAlms touched = made.get();
        taken(name, call.applyAsInt(touched));
        same(name, touched, made.get());
    }

    /** Reads both objects to their ends, images and THE TEXT too: neither is of use afterwards. */
    private static void same(String name, ShadowAlms touched, ShadowAlms untouched) {
        List<String> got = readToTheEnd(touched);
        List<String> want = readToTheEnd(untouched);
        for (int i = 0; i < want.size(); i++) {
            boolean like = i < got.size() && got.get(i).equals(want.get(i));
            Due.is(name + " leaves " + want.get(i), like ? 1 : 0, 1);
        }
    }

    private static List<String> readToTheEnd(ShadowAlms x) {
        List<String> lines = new ArrayList<>();
        lines.add("fault " + x.fault());
        lines.add("bytes of THE TEXT " + x.told(5));
        readSquare(x, lines);
        readState(x, lines);
        readTold(x, lines);
        for (int i = 0; i < 2; i++) {
            lines.add("goBack(" + i + ") " + x.goBack(i));
            readState(x, lines);
        }
        lines.add("square of THE TEXT " + x.square());
        lines.add("its fault " + x.fault());
        readSquare(x, lines);
        return lines;
    }

    private static void readSquare(ShadowAlms x, List<String> lines) {
        for (int what = 0; what <= 4; what++) {
            lines.add("told(" + what + ") " + x.told(what));
        }
        for (int b = 0; b < x.told(1); b++) {
            lines.add("BELL " + b + " is " + x.bell(b, 0) + " and " + x.bell(b, 1));
        }
        for (int s = 0; s < x.told(2); s++) {
            lines.add("SPOT " + s + " is " + x.spot(s, 0) + " " + x.spot(s, 1) + " " + x.spot(s, 2));
        }
        for (int g = 0; g < x.told(3); g++) {
            lines.add("BEGGAR " + g + " is " + x.beggar(g, 0));
        }
        for (int h = 0; h < x.told(4); h++) {
            lines.add("HAT " + h + " is " + x.hat(h, 0) + " " + x.hat(h, 1));
        }
    }

    private static void readState(ShadowAlms x, List<String> lines) {
        for (int what = 6; what <= 8; what++) {
            lines.add("told(" + what + ") " + x.told(what));
        }
        for (int g = 0; g < x.told(3); g++) {
            lines.add("BEGGAR " + g + " has " + x.beggar(g, 1) + " " + x.beggar(g, 2) + " " + x.beggar(g, 4));
        }
        int seed = x.seed(0);
        x.seed(seed);
        lines.add("THE SEED " + seed);
    }

    private static void readTold(ShadowAlms x, List<String> lines) {
        for (int what = 9; what <= 10; what++) {
            lines.add("told(" + what + ") " + x.told(what));
        }
        for (int what = 0; what <= 2; what++) {
            lines.add("fits(" + what + ") " + x.fits(what));
        }
        lines.add("judge " + x.judge());
    }
}
