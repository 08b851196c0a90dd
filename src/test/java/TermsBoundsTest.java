import java.util.List;
import java.util.function.Consumer;

/** The terms of the document: a test for each sentence about text, lines and marks that names a bound. */
public final class TermsBoundsTest {
    private static final int MIN = Integer.MIN_VALUE;
    private static final int MAX = Integer.MAX_VALUE;

    public static void main(String[] args) {
        text();
        lines();
        presentLine();
        marks();
        refusal();
        Due.end("TermsBoundsTest");
    }

    private static void text() {
        Due.sentence("An object is used for at most 512 calls", TermsBoundsTest::fiveHundredAndTwelveCalls);
        Due.sentence("THE TEXT is a row of at most 60 LINES", TermsBoundsTest::atMostSixty);
        Due.sentence("numbered from 1", TermsBoundsTest::numberedFromOne);
        Due.sentence("empty at the start", () -> Desks.text("new", new LineDesk()));
        Due.sentence("A line has a VALUE, an int", TermsBoundsTest::anyIntIsAValue);
        Due.sentence("the number 0 stands for the place before the first line", TermsBoundsTest::numberZero);
    }

    private static void lines() {
        Due.sentence("A line stays the same line when it is moved", TermsBoundsTest::sameLineWhenMoved);
        Due.sentence("or its value changes", TermsBoundsTest::sameLineWithOtherValue);
        Due.sentence("a copy is another line", TermsBoundsTest::copyIsAnotherLine);
    }

    private static void presentLine() {
        Due.sentence("THE PRESENT LINE is a line of the text", TermsBoundsTest::presentIsInTheText);
        Due.sentence("or none if the text is empty", () ->
                Due.is("new: present()", new LineDesk().present(), 0));
        Due.sentence("When the text becomes empty there is no present line: remove", TermsBoundsTest::emptyByRemove);
        Due.sentence("When the text becomes empty there is no present line: all", TermsBoundsTest::emptyByAll);
        Due.sentence("When the text becomes empty there is no present line: undo", TermsBoundsTest::emptyByUndo);
    }

    private static void marks() {
        Due.sentence("MARKS 0 to 3 each stand for a line or for none", TermsBoundsTest::fourMarks);
        Due.sentence("(none at the start)", () -> Desks.marks("new", new LineDesk(), 0, 0, 0, 0));
        Due.sentence("when a line is removed, marks that stand for it stand for none", TermsBoundsTest::marksOfRemoved);
        Due.sentence("when a line is removed: by all", TermsBoundsTest::marksOfRemovedByAll);
        Due.sentence("when a line is removed: several marks for it", TermsBoundsTest::severalMarksOfOneLine);
        Due.sentence("stand for none: also when new lines come", TermsBoundsTest::noMarkForALaterLine);
        Due.sentence("marks that stand for it: no others", TermsBoundsTest::otherMarksStay);
    }

    private static void refusal() {
        Due.sentence("A call with a line number that is not as said is refused", TermsBoundsTest::wrongNumbers);
        Due.sentence("it answers -1 and changes nothing: call after call", TermsBoundsTest::manyRefusedCalls);
        Due.sentence("No call may ever throw or fail to end (LANGUAGE.md, 7)", TermsBoundsTest::oddNumbersEverywhere);
    }

    private static void fiveHundredAndTwelveCalls() {
        LineDesk x = new LineDesk();
        for (int call = 1; call <= 60; call++) {
            Due.is("call " + call + ", put", x.put(0, call), 1);
        }
        for (int call = 61; call < 511; call += 2) {
            Due.is("call " + call + ", move", x.move(60, 60, 0), 1);
            Due.is("call " + (call + 1) + ", undo", x.undo(), 1);
        }
        Due.is("call 511, all", x.all(1, 1), 1);
        Due.is("call 512, line", x.line(60), 2);
    }

    private static void atMostSixty() {
        LineDesk puts = Desks.filled(60);
        Due.is("60 puts: lines()", puts.lines(), 60);
        LineDesk copies = Desks.filled(30);
        copies.copy(1, 30, 30);
        Due.is("30 and 30 copies: lines()", copies.lines(), 60);
        LineDesk doubled = new LineDesk();
        for (int n = 0; n < 31; n++) {
            doubled.put(0, 5);
        }
        doubled.all(5, 3);
        Due.is("31 doubled: lines()", doubled.lines(), 60);
        for (LineDesk full : List.of(puts, copies, doubled)) {
            full.put(0, 5);
            full.copy(1, 1, 60);
            full.all(5, 3);
            Due.is("one more by put, copy and all: lines()", full.lines(), 60);
            Due.is("one more by put, copy and all: line(61)", full.line(61), 0);
        }
    }

    private static void numberedFromOne() {
        LineDesk x = new LineDesk();
        Due.is("put(0, 5)", x.put(0, 5), 1);
        Due.is("line(1)", x.line(1), 5);
        Due.is("line(0)", x.line(0), 0);
        Due.is("line(2)", x.line(2), 0);
        Due.is("present()", x.present(), 1);
        Due.is("find(5)", x.find(5), 1);
    }

    private static void anyIntIsAValue() {
        int[] values = {MIN, MIN + 1, -1, 0, 1, MAX - 1, MAX};
        LineDesk x = Desks.of(values);
        Desks.text("values", x, values);
        for (int n = 1; n <= values.length; n++) {
            Due.is("find(" + values[n - 1] + ")", x.find(values[n - 1]), n);
        }
        x.copy(1, 1, 7);
        Due.is("a copy of MIN", x.line(8), MIN);
        x.replace(8, 8, MIN, MAX);
        Due.is("MIN replaced by MAX", x.line(8), MAX);
        Due.is("all(MAX, 0)", x.all(MAX, 0), 2);
    }

    private static void numberZero() {
        LineDesk x = Desks.of(1, 2, 3);
        x.put(0, 4);
        Desks.text("put(0, 4)", x, 4, 1, 2, 3);
        x.move(3, 4, 0);
        Desks.text("move(3, 4, 0)", x, 2, 3, 4, 1);
        x.copy(4, 4, 0);
        Desks.text("copy(4, 4, 0)", x, 1, 2, 3, 4, 1);
        Due.is("line(0)", x.line(0), 0);
        Due.is("remove(0, 1)", x.remove(0, 1), -1);
    }

    private static LineDesk fourMarked() {
        LineDesk x = Desks.of(10, 20, 30, 40);
        for (int m = 0; m < 4; m++) {
            x.mark(m, m + 1);
        }
        return x;
    }

    private static void marksAfter(String call, Consumer<LineDesk> change, int... want) {
        LineDesk x = fourMarked();
        change.accept(x);
        marksNowAndLater(call, x, want);
    }

    /** A mark of a removed line must not come to stand for a line put later, wherever that is held. */
    private static void marksNowAndLater(String call, LineDesk x, int... want) {
        Desks.marks(call, x, want);
        for (int n = x.lines(); n < 60; n++) {
            x.put(n, 10);
        }
        Desks.marks(call + ", then puts up to 60 lines", x, want);
    }

    private static void sameLineWhenMoved() {
        marksAfter("move(1, 2, 3)", x -> x.move(1, 2, 3), 2, 3, 1, 4);
        marksAfter("move(4, 4, 0)", x -> x.move(4, 4, 0), 2, 3, 4, 1);
        marksAfter("move(2, 3, 4)", x -> x.move(2, 3, 4), 1, 3, 4, 2);
        marksAfter("all(30, 1)", x -> x.all(30, 1), 2, 3, 1, 4);
        marksAfter("all(20, 2)", x -> x.all(20, 2), 1, 4, 2, 3);
        marksAfter("all(20, 4)", x -> x.all(20, 4), 1, 3, 2, 4);
        marksAfter("put(2, 9)", x -> x.put(2, 9), 1, 2, 4, 5);
        marksAfter("copy(1, 4, 2)", x -> x.copy(1, 4, 2), 1, 2, 7, 8);
        marksAfter("all(20, 3)", x -> x.all(20, 3), 1, 2, 4, 5);
        marksAfter("remove(2, 2)", x -> x.remove(2, 2), 1, 0, 2, 3);
    }

    private static void sameLineWithOtherValue() {
        marksAfter("replace(1, 4, 30, 9)", x -> x.replace(1, 4, 30, 9), 1, 2, 3, 4);
        LineDesk x = fourMarked();
        x.go(2);
        x.replace(3, 3, 99, 9);
        x.replace(2, 2, 20, 21);
        Due.is("replace(2, 2): present()", x.present(), 2);
        Due.is("replace(2, 2): line(marked(1))", x.line(x.marked(1)), 21);
    }

    private static void copyIsAnotherLine() {
        LineDesk x = Desks.of(10, 20);
        x.mark(0, 1);
        x.copy(1, 1, 0);
        Due.is("copy(1, 1, 0): the mark stays with the line", x.marked(0), 2);
        x.replace(1, 1, 10, 11);
        Desks.text("replace(1, 1) of the copy", x, 11, 10, 20);
        x.remove(1, 1);
        Due.is("remove(1, 1) of the copy: the mark", x.marked(0), 1);
        x.all(10, 3);
        x.remove(1, 1);
        Due.is("remove(1, 1) of the line, its copy stays: the mark", x.marked(0), 0);
        Desks.text("remove(1, 1) of the line, its copy stays", x, 10, 20);
    }

    private static void presentIsInTheText() {
        List<Consumer<LineDesk>> changes = List.of(
                x -> x.put(4, 5), x -> x.remove(3, 4), x -> x.remove(1, 2), x -> x.move(1, 2, 4),
                x -> x.copy(1, 4, 0), x -> x.replace(1, 4, 10, 5), x -> x.all(40, 0), x -> x.all(10, 0),
                x -> x.all(20, 1), x -> x.all(20, 2), x -> x.all(20, 3), x -> x.all(40, 4));
        int[] want = {5, 2, 1, 4, 4, 1, 3, 3, 1, 4, 2, 4};
        for (int k = 0; k < want.length; k++) {
            LineDesk x = fourMarked();
            changes.get(k).accept(x);
            Due.is("change " + k + ": present()", x.present(), want[k]);
        }
    }

    private static void noPresent(String call, LineDesk x) {
        Due.is(call + ": lines()", x.lines(), 0);
        Due.is(call + ": present()", x.present(), 0);
        Due.is(call + ": find(10)", x.find(10), 0);
        x.put(0, 1);
        Due.is(call + ", then put(0, 1): present()", x.present(), 1);
    }

    private static void emptyByRemove() {
        LineDesk x = fourMarked();
        x.remove(1, 4);
        noPresent("remove(1, 4)", x);
        LineDesk y = Desks.of(10);
        y.remove(1, 1);
        noPresent("remove(1, 1)", y);
    }

    private static void emptyByAll() {
        LineDesk x = Desks.of(10, 10);
        x.go(1);
        x.all(10, 0);
        noPresent("all(10, 0)", x);
    }

    private static void emptyByUndo() {
        LineDesk x = Desks.of(10);
        x.mark(0, 1);
        x.undo();
        Due.is("undo of the first put: the mark", x.marked(0), 0);
        noPresent("undo of the first put", x);
        LineDesk y = fourMarked();
        y.remove(1, 4);
        y.undo();
        y.undo();
        noPresent("remove(1, 4), undo, undo", y);
    }

    private static void fourMarks() {
        LineDesk x = Desks.filled(60);
        int[] want = new int[4];
        for (int m = 3; m >= 0; m--) {
            want[m] = 60 - m;
            x.mark(m, want[m]);
            Desks.marks("mark(" + m + ")", x, want);
        }
        Due.is("marked(4) is marked(0)", x.marked(4), 60);
    }

    private static void marksOfRemoved() {
        marksAfter("remove(1, 1)", x -> x.remove(1, 1), 0, 1, 2, 3);
        marksAfter("remove(4, 4)", x -> x.remove(4, 4), 1, 2, 3, 0);
        marksAfter("remove(2, 3)", x -> x.remove(2, 3), 1, 0, 0, 2);
        marksAfter("remove(1, 4)", x -> x.remove(1, 4), 0, 0, 0, 0);
    }

    private static void marksOfRemovedByAll() {
        marksAfter("all(10, 0)", x -> x.all(10, 0), 0, 1, 2, 3);
        marksAfter("all(40, 0)", x -> x.all(40, 0), 1, 2, 3, 0);
        LineDesk x = Desks.of(7, 7, 1, 7);
        for (int m = 0; m < 4; m++) {
            x.mark(m, m + 1);
        }
        x.all(7, 0);
        marksNowAndLater("all(7, 0)", x, 0, 0, 1, 0);
    }

    private static void severalMarksOfOneLine() {
        for (int kind = 0; kind < 2; kind++) {
            LineDesk x = Desks.of(10, 20);
            for (int m = 0; m < 4; m++) {
                x.mark(m, 1);
            }
            int gone = kind == 0 ? x.remove(1, 1) : x.all(10, 0);
            Due.is("lines removed", gone, 1);
            marksNowAndLater("four marks for a removed line", x, 0, 0, 0, 0);
        }
    }

    private static void noMarkForALaterLine() {
        LineDesk x = fourMarked();
        x.remove(1, 4);
        for (int n = 0; n < 60; n++) {
            x.put(0, 10);
        }
        Desks.marks("60 lines put behind a remove of all", x, 0, 0, 0, 0);
        LineDesk y = fourMarked();
        y.all(20, 0);
        y.copy(1, 3, 3);
        y.all(10, 3);
        y.put(0, 20);
        Desks.marks("copies and a put behind an all", y, 2, 0, 4, 5);
    }

    private static void otherMarksStay() {
        LineDesk x = Desks.filled(60);
        x.mark(0, 1);
        x.mark(1, 29);
        x.mark(2, 41);
        x.mark(3, 60);
        x.remove(30, 40);
        Desks.marks("remove(30, 40) of 60", x, 1, 29, 30, 49);
        x.all(41, 0);
        Desks.marks("all(41, 0)", x, 1, 29, 0, 48);
    }

    private static void wrongNumbers() {
        for (int n : new int[] {MIN, -61, -1, 6, 7, 61, MAX}) {
            String wrong = "(.. " + n + " ..)";
            Quiet.refused("put" + wrong, () -> Desks.busy(5), x -> x.put(n, 1));
            Quiet.refused("remove" + wrong, () -> Desks.busy(5), x -> x.remove(n, 5));
            Quiet.refused("remove up to" + wrong, () -> Desks.busy(5), x -> x.remove(1, n));
            Quiet.refused("move" + wrong, () -> Desks.busy(5), x -> x.move(n, 5, 0));
            Quiet.refused("move up to" + wrong, () -> Desks.busy(5), x -> x.move(1, n, 0));
            Quiet.refused("move behind" + wrong, () -> Desks.busy(5), x -> x.move(1, 1, n));
            Quiet.refused("copy" + wrong, () -> Desks.busy(5), x -> x.copy(n, 5, 0));
            Quiet.refused("copy up to" + wrong, () -> Desks.busy(5), x -> x.copy(1, n, 0));
            Quiet.refused("copy behind" + wrong, () -> Desks.busy(5), x -> x.copy(1, 1, n));
            Quiet.refused("replace" + wrong, () -> Desks.busy(5), x -> x.replace(n, 5, 1, 2));
            Quiet.refused("replace up to" + wrong, () -> Desks.busy(5), x -> x.replace(1, n, 1, 2));
            Quiet.refused("mark" + wrong, () -> Desks.busy(5), x -> x.mark(0, n));
        }
    }

    private static int refusedInARow(LineDesk x) {
        int answers = 0;
        for (int k = 0; k < 10; k++) {
            answers += x.put(-1, 1) + x.remove(2, 1) + x.move(1, 2, 1) + x.copy(0, 1, 0);
            answers += x.replace(0, 1, 1, 2) + x.all(1, 5) + x.mark(0, -1);
        }
        return answers;
    }

    private static void manyRefusedCalls() {
        Quiet.answers("seventy refused calls", -70, () -> Desks.busy(5), TermsBoundsTest::refusedInARow);
        Quiet.answers("seventy refused calls", -70, LineDesk::new, TermsBoundsTest::refusedInARow);
        Quiet.answers("seventy refused calls", -70, Desks::emptied, TermsBoundsTest::refusedInARow);
    }

    private static void oddNumbersEverywhere() {
        int[] odd = {MIN, MIN + 1, -1, 0, 1, 59, 60, 61, MAX - 1, MAX};
        LineDesk x = Desks.busy(60);
        for (int a : odd) {
            for (int b : odd) {
                for (int c : odd) {
                    x.put(a, b);
                    x.move(a, b, c);
                    x.copy(a, b, c);
                    x.replace(a, b, c, a);
                    x.all(a, c);
                    x.mark(a, b);
                    x.go(a);
                    x.remove(b, c);
                    x.undo();
                }
            }
        }
        // What so many calls answer is free: it is enough that all of them have ended.
        Due.holds("lines() after them", x.lines() >= 0);
    }
}
