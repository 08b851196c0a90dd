import java.util.function.Supplier;
import java.util.function.ToIntFunction;

/** Calls that change nothing, each seen beside a desk made the same way that was spared the call. */
final class Quiet {
    private Quiet() {
    }

    static void refused(String name, Supplier<LineDesk> make, ToIntFunction<LineDesk> call) {
        answers(name, -1, make, call);
    }

    static void answers(String name, int want, Supplier<LineDesk> make, ToIntFunction<LineDesk> call) {
        compare(name, want, make, call);
        compare("after an undo, " + name, want, () -> backFromEmpty(make.get()), call);
    }

    /** The same state, but the next undo goes forth (to no text) and not back. */
    private static LineDesk backFromEmpty(LineDesk x) {
        if (x.lines() > 0) {
            x.remove(1, x.lines());
            x.undo();
        }
        return x;
    }

    private static void compare(String name, int want, Supplier<LineDesk> make, ToIntFunction<LineDesk> call) {
        LineDesk called = make.get();
        LineDesk spared = make.get();
        String where = name + " of " + spared.lines() + " lines";
        Due.is(where, call.applyAsInt(called), want);
        Desks.same(where, Desks.look(called), Desks.look(spared));
        for (int k = 1; k <= 2; k++) {
            String then = where + ", then undo() no. " + k;
            Due.is(then, called.undo(), spared.undo());
            Desks.same(then, Desks.look(called), Desks.look(spared));
        }
    }
}
