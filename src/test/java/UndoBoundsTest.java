import java.util.List;
import java.util.function.Consumer;
import java.util.function.ToIntFunction;

/** Promise 15 and the step back: a test for each sentence that names a bound of undo. */
public final class UndoBoundsTest {
    private static final List<Consumer<LineDesk>> CHANGES = List.of(
            x -> x.put(1, 9), x -> x.remove(2, 3), x -> x.remove(1, 4), x -> x.move(1, 2, 4), x -> x.copy(1, 3, 2),
            x -> x.replace(1, 4, 10, 8), x -> x.all(10, 0), x -> x.all(10, 1), x -> x.all(10, 2),
            x -> x.all(10, 3), x -> x.all(10, 4));

    public static void main(String[] args) {
        changes();
        stepBack();
        answers();
        Due.end("UndoBoundsTest");
    }

    private static void changes() {
        Due.sentence("CHANGES are [..] put, remove, move, copy, replace and all", UndoBoundsTest::eachIsAChange);
        Due.sentence("when they are not refused", UndoBoundsTest::refusedIsNoChange);
        Due.sentence("(also if they alter nothing)", UndoBoundsTest::altersNothing);
        Due.sentence("(also if they alter nothing): in an empty text", UndoBoundsTest::altersNothingOfNothing);
        Due.sentence("(also if they alter nothing): in a full text", UndoBoundsTest::altersNothingWhenFull);
    }

    private static void stepBack() {
        Due.sentence("undo makes text [..] what they were before the last change", UndoBoundsTest::textComesBack);
        Due.sentence("undo makes [..] values [..] what they were", UndoBoundsTest::valuesComeBack);
        Due.sentence("undo makes [..] marks [..] what they were", UndoBoundsTest::marksComeBack);
        Due.sentence("undo makes [..] present line what they were", UndoBoundsTest::presentComesBack);
        Due.sentence("before the last change: only that one", UndoBoundsTest::oneStepOnly);
        Due.sentence("calls of mark [..] that came after it are undone too", UndoBoundsTest::laterMarks);
        Due.sentence("calls of [..] go that came after it are undone too", UndoBoundsTest::laterGoes);
        Due.sentence("marks and present line [..] before the last change stay set", UndoBoundsTest::earlierMarkAndGo);
        Due.sentence("undo once more makes them what they were before that undo", UndoBoundsTest::forth);
        Due.sentence("before that undo: with the marks and goes that it took", UndoBoundsTest::forthWithMarkAndGo);
        Due.sentence("before that undo: a mark and a go between two undos", UndoBoundsTest::markAndGoBetween);
        Due.sentence("and so on", UndoBoundsTest::andSoOn);
        Due.sentence("the last change: one that came after an undo", UndoBoundsTest::changeAfterUndo);
        Due.sentence("text [..] what they were: from 60 to none and back", UndoBoundsTest::fullText);
    }

    private static void answers() {
        Due.sentence("undo: Answers 1", UndoBoundsTest::answersOne);
        Due.sentence("0 if there was no change yet", UndoBoundsTest::noChangeYet);
        Due.sentence("0 if there was no change yet: mark, go and looks are none", UndoBoundsTest::noChangeAmongOthers);
    }

    /** Marks on the four lines, the second one present. */
    private static LineDesk ready() {
        LineDesk x = Desks.of(10, 20, 10, 30);
        for (int m = 0; m < 4; m++) {
            x.mark(m, m + 1);
        }
        x.go(2);
        return x;
    }

    private static void eachIsAChange() {
        for (int k = 0; k < CHANGES.size(); k++) {
            LineDesk x = ready();
            int[] before = Desks.look(x);
            CHANGES.get(k).accept(x);
            Due.is("undo() of change " + k, x.undo(), 1);
            Desks.same("undo() of change " + k, Desks.look(x), before);
        }
    }

    private static void refusedIsNoChange() {
        List<ToIntFunction<LineDesk>> refused = List.of(
                x -> x.put(5, 9), x -> x.remove(1, 5), x -> x.move(1, 2, 1), x -> x.copy(1, 1, 5),
                x -> x.replace(0, 1, 10, 9), x -> x.all(10, 5), x -> x.mark(0, 5));
        for (int k = 0; k < refused.size(); k++) {
            Quiet.refused("refused call " + k, UndoBoundsTest::ready, refused.get(k));
            Quiet.refused("refused call " + k, LineDesk::new, refused.get(k));
        }
        Quiet.refused("put for want of room", () -> Desks.busy(60), x -> x.put(60, 1));
        Quiet.refused("copy for want of room", () -> Desks.busy(60), x -> x.copy(1, 1, 60));
    }

    /** The change must be the one that undo takes back, though nothing can be seen of it. */
    private static void stepsOverNothing(String call, LineDesk x, Consumer<LineDesk> change) {
        int[] before = Desks.look(x);
        change.accept(x);
        Desks.same(call + " alters nothing", Desks.look(x), before);
        x.mark(3, 1);
        x.go(1);
        int[] after = Desks.look(x);
        Due.is(call + ", then undo()", x.undo(), 1);
        Desks.same(call + ", then undo()", Desks.look(x), before);
        Due.is(call + ", then undo() twice", x.undo(), 1);
        Desks.same(call + ", then undo() twice", Desks.look(x), after);
    }

    private static LineDesk lastPresent() {
        LineDesk x = Desks.of(10, 20, 30);
        x.mark(0, 2);
        return x;
    }

    private static void altersNothing() {
        stepsOverNothing("move(3, 3, 3)", lastPresent(), x -> x.move(3, 3, 3));
        stepsOverNothing("move(2, 3, 1)", lastPresent(), x -> x.move(2, 3, 1));
        stepsOverNothing("move(1, 3, 0)", lastPresent(), x -> x.move(1, 3, 0));
        stepsOverNothing("replace of none", lastPresent(), x -> x.replace(1, 3, 9, 8));
        stepsOverNothing("replace by the same", lastPresent(), x -> x.replace(1, 3, 30, 30));
        for (int kind = 0; kind <= 4; kind++) {
            int k = kind;
            stepsOverNothing("all of none, kind " + kind, lastPresent(), x -> x.all(9, k));
        }
        stepsOverNothing("all(30, 2) of the last line", lastPresent(), x -> x.all(30, 2));
        stepsOverNothing("all(30, 4) of the last line", lastPresent(), x -> x.all(30, 4));
        LineDesk first = Desks.of(10, 20, 30);
        first.put(0, 5);
        stepsOverNothing("all(5, 1) of the first line", first, x -> x.all(5, 1));
    }

    private static void altersNothingOfNothing() {
        for (int kind = 0; kind <= 4; kind++) {
            LineDesk x = new LineDesk();
            Due.is("all(1, " + kind + ")", x.all(1, kind), 0);
            Due.is("all(1, " + kind + "), then undo()", x.undo(), 1);
            Due.is("all(1, " + kind + "), then undo() twice", x.undo(), 1);
            Desks.text("all(1, " + kind + "), then undo() twice", x);
            LineDesk emptied = Desks.emptied();
            emptied.all(1, kind);
            Due.is("emptied, all(1, " + kind + "), then undo()", emptied.undo(), 1);
            Desks.text("emptied, all(1, " + kind + "), then undo()", emptied);
        }
    }

    private static void altersNothingWhenFull() {
        stepsOverNothing("all(60, 3) of 60", Desks.filled(60), x -> x.all(60, 3));
        stepsOverNothing("move(60, 60, 60) of 60", Desks.filled(60), x -> x.move(60, 60, 60));
    }

    private static void textComesBack() {
        for (int k = 0; k < CHANGES.size(); k++) {
            LineDesk x = ready();
            CHANGES.get(k).accept(x);
            x.undo();
            Desks.text("undo() of change " + k, x, 10, 20, 10, 30);
        }
    }

    private static void valuesComeBack() {
        LineDesk x = Desks.of(10, 20, 10);
        x.replace(1, 3, 10, 20);
        x.undo();
        Desks.text("undo() of a replace", x, 10, 20, 10);
        x.undo();
        Desks.text("undo() twice", x, 20, 20, 20);
    }

    private static void marksComeBack() {
        for (int k = 0; k < CHANGES.size(); k++) {
            LineDesk x = ready();
            CHANGES.get(k).accept(x);
            x.undo();
            Desks.marks("undo() of change " + k, x, 1, 2, 3, 4);
        }
    }

    private static void presentComesBack() {
        for (int k = 0; k < CHANGES.size(); k++) {
            LineDesk x = ready();
            CHANGES.get(k).accept(x);
            x.undo();
            Due.is("undo() of change " + k + ": present()", x.present(), 2);
        }
        LineDesk first = new LineDesk();
        first.put(0, 5);
        first.undo();
        Due.is("undo() of the first put: present()", first.present(), 0);
    }

    private static void oneStepOnly() {
        LineDesk x = new LineDesk();
        x.put(0, 1);
        x.put(1, 2);
        x.put(2, 3);
        x.undo();
        Desks.text("three puts, undo()", x, 1, 2);
        x.undo();
        Desks.text("three puts, undo() twice", x, 1, 2, 3);
    }

    private static void laterMarks() {
        LineDesk x = ready();
        x.put(0, 5);
        x.mark(0, 1);
        x.mark(1, 0);
        x.mark(2, 5);
        x.undo();
        Desks.marks("marks set behind a put, undo()", x, 1, 2, 3, 4);
    }

    private static void laterGoes() {
        LineDesk x = ready();
        x.put(0, 5);
        x.go(4);
        x.go(5);
        x.undo();
        Due.is("goes behind a put, undo(): present()", x.present(), 2);
    }

    private static void earlierMarkAndGo() {
        LineDesk x = Desks.of(10, 20, 30);
        x.mark(0, 3);
        x.go(1);
        x.put(0, 5);
        x.undo();
        Due.is("mark and go before a put, undo(): marked(0)", x.marked(0), 3);
        Due.is("mark and go before a put, undo(): present()", x.present(), 1);
    }

    private static void forth() {
        for (int k = 0; k < CHANGES.size(); k++) {
            LineDesk x = ready();
            CHANGES.get(k).accept(x);
            int[] after = Desks.look(x);
            x.undo();
            Due.is("undo() twice of change " + k, x.undo(), 1);
            Desks.same("undo() twice of change " + k, Desks.look(x), after);
        }
    }

    private static void forthWithMarkAndGo() {
        LineDesk x = ready();
        x.put(0, 5);
        x.mark(0, 1);
        x.mark(3, 0);
        x.go(4);
        x.undo();
        x.undo();
        Desks.marks("undo() twice", x, 1, 3, 4, 0);
        Due.is("undo() twice: present()", x.present(), 4);
    }

    private static void markAndGoBetween() {
        LineDesk x = ready();
        x.put(0, 5);
        int[] after = Desks.look(x);
        x.undo();
        x.mark(0, 4);
        x.go(3);
        int[] between = Desks.look(x);
        x.undo();
        Desks.same("undo, mark and go, undo", Desks.look(x), after);
        x.undo();
        Desks.same("undo, mark and go, undo, undo", Desks.look(x), between);
    }

    private static void andSoOn() {
        LineDesk x = ready();
        int[] before = Desks.look(x);
        x.all(10, 0);
        int[] after = Desks.look(x);
        for (int k = 1; k <= 20; k++) {
            Due.is("undo() no. " + k, x.undo(), 1);
            Desks.same("undo() no. " + k, Desks.look(x), k % 2 == 1 ? before : after);
        }
    }

    private static void changeAfterUndo() {
        LineDesk x = Desks.of(10, 20);
        x.undo();
        x.put(1, 30);
        Desks.text("undo, put", x, 10, 30);
        x.undo();
        Desks.text("undo, put, undo", x, 10);
        x.undo();
        Desks.text("undo, put, undo, undo", x, 10, 30);
        x.undo();
        x.all(99, 0);
        x.undo();
        Desks.text("a change that alters nothing behind an undo, undo", x, 10);
        x.undo();
        Desks.text("and once more", x, 10);
    }

    private static void fullText() {
        LineDesk x = Desks.filled(60);
        x.mark(0, 60);
        x.go(31);
        int[] full = Desks.look(x);
        x.remove(1, 60);
        x.undo();
        Desks.same("remove(1, 60), undo()", Desks.look(x), full);
        x.undo();
        Desks.text("remove(1, 60), undo() twice", x);
        Due.is("remove(1, 60), undo() twice: marked(0)", x.marked(0), 0);
        LineDesk half = Desks.filled(30);
        int[] before = Desks.look(half);
        half.copy(1, 30, 0);
        half.undo();
        Desks.same("copy(1, 30, 0), undo()", Desks.look(half), before);
        half.undo();
        Due.is("copy(1, 30, 0), undo() twice: lines()", half.lines(), 60);
    }

    private static void answersOne() {
        LineDesk x = Desks.of(10);
        for (int k = 0; k < 5; k++) {
            Due.is("undo() no. " + k, x.undo(), 1);
        }
    }

    private static void noChangeYet() {
        Quiet.answers("undo()", 0, LineDesk::new, LineDesk::undo);
        LineDesk x = new LineDesk();
        Due.is("undo()", x.undo(), 0);
        Due.is("undo() twice", x.undo(), 0);
        x.put(0, 5);
        Due.is("put(0, 5), undo()", x.undo(), 1);
        Desks.text("put(0, 5), undo()", x);
    }

    private static void noChangeAmongOthers() {
        LineDesk x = new LineDesk();
        x.mark(0, 0);
        x.marked(0);
        x.go(0);
        x.go(1);
        x.present();
        x.line(1);
        x.lines();
        x.find(0);
        Due.is("undo()", x.undo(), 0);
        LineDesk other = Desks.of(10);
        Due.is("a change of another desk: undo()", new LineDesk().undo(), 0);
        Due.is("the other desk: undo()", other.undo(), 1);
    }
}
