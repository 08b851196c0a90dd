import java.util.List;
import java.util.function.Supplier;

/** Promises 8 to 14: a test for each sentence about marks, going and looking that names a bound. */
public final class LookBoundsTest {
    private static final int MIN = Integer.MIN_VALUE;
    private static final int MAX = Integer.MAX_VALUE;
    private static final int[] SIZES = {1, 2, 5, 60};
    private static final List<Supplier<LineDesk>> EMPTY = List.of(LineDesk::new, Desks::emptied);

    public static void main(String[] args) {
        mark();
        marked();
        go();
        presentAndLine();
        find();
        Due.end("LookBoundsTest");
    }

    private static void mark() {
        Due.sentence("The mark letter & 3 stands for line n then", LookBoundsTest::markWithAnyLetter);
        Due.sentence("stands for line n: the first and the last", LookBoundsTest::markTheEnds);
        Due.sentence("or for none if n is 0", LookBoundsTest::markNone);
        Due.sentence("mark: Answers 0", LookBoundsTest::markAnswers);
        Due.sentence("-1 also if n is not from 0: too small", LookBoundsTest::markTooSmall);
        Due.sentence("-1 also if n is not [..] to the number of lines: too large", LookBoundsTest::markTooLarge);
    }

    private static void marked() {
        Due.sentence("The number of the line for which the mark letter & 3 stands", LookBoundsTest::markedWithAnyLetter);
        Due.sentence("marked: 0 if for none", LookBoundsTest::markedNone);
    }

    private static void go() {
        Due.sentence("Line n is the present line then. Answers its value", LookBoundsTest::goToEveryLine);
        Due.sentence("0 if there is no line n (nothing is changed then): too small", LookBoundsTest::goTooSmall);
        Due.sentence("0 if there is no line n (nothing is changed then): too large", LookBoundsTest::goTooLarge);
        Due.sentence("0 if there is no line n (nothing is changed then): empty", LookBoundsTest::goNowhere);
    }

    private static void presentAndLine() {
        Due.sentence("The number of the present line", LookBoundsTest::presentIsANumber);
        Due.sentence("present: 0 if there is none", LookBoundsTest::presentNone);
        Due.sentence("The value of line n", LookBoundsTest::lineOfEveryNumber);
        Due.sentence("line: 0 if there is none: too small", LookBoundsTest::lineTooSmall);
        Due.sentence("line: 0 if there is none: too large", LookBoundsTest::lineTooLarge);
        Due.sentence("The number of lines", LookBoundsTest::linesFromNoneToSixty);
    }

    private static void find() {
        Due.sentence("the next line with the value behind the present line", LookBoundsTest::findBehind);
        Due.sentence("going on from the first line after the last one", LookBoundsTest::findGoesOn);
        Due.sentence("going on from the first line: the present line is the last one", LookBoundsTest::findFromTheLast);
        Due.sentence("(the present line itself comes last)", LookBoundsTest::findItselfLast);
        Due.sentence("find: 0 if no line has it", LookBoundsTest::findNone);
        Due.sentence("find: 0 if no line has it: an empty text", LookBoundsTest::findInEmptyText);
        Due.sentence("find: Changes nothing", LookBoundsTest::findChangesNothing);
    }

    private static void markWithAnyLetter() {
        int[][] letters = {
            {0, 0}, {3, 3}, {4, 0}, {5, 1}, {6, 2}, {7, 3}, {-1, 3}, {-2, 2}, {-3, 1}, {-4, 0},
            {MAX, 3}, {MIN, 0}, {MIN + 1, 1}, {256, 0}, {0x10002, 2},
        };
        for (int[] letter : letters) {
            LineDesk x = Desks.of(1, 2);
            x.mark(letter[0], 2);
            int[] want = new int[4];
            want[letter[1]] = 2;
            Desks.marks("mark(" + letter[0] + ", 2)", x, want);
        }
    }

    private static void markTheEnds() {
        for (int n : SIZES) {
            LineDesk x = Desks.filled(n);
            x.mark(0, 1);
            x.mark(1, n);
            Desks.marks("marks 1 and " + n, x, 1, n, 0, 0);
        }
    }

    private static void markNone() {
        for (int m = 0; m < 4; m++) {
            LineDesk x = Desks.of(1, 2, 3, 4);
            int[] want = {1, 2, 3, 4};
            for (int k = 0; k < 4; k++) {
                x.mark(k, k + 1);
            }
            want[m] = 0;
            Due.is("mark(" + m + ", 0)", x.mark(m, 0), 0);
            Desks.marks("mark(" + m + ", 0)", x, want);
            x.mark(m + 4, m + 1);
            Due.is("mark(" + (m - 4) + ", 0)", x.mark(m - 4, 0), 0);
            Desks.marks("mark(" + (m - 4) + ", 0)", x, want);
        }
        for (Supplier<LineDesk> make : EMPTY) {
            Quiet.answers("mark(2, 0) where it is none", 0, make, x -> x.mark(2, 0));
        }
    }

    private static void markAnswers() {
        LineDesk x = Desks.of(1, 2);
        Due.is("mark(0, 1)", x.mark(0, 1), 0);
        Due.is("mark(0, 2) once more", x.mark(0, 2), 0);
        Due.is("mark(3, 2) of the same line", x.mark(3, 2), 0);
        Desks.marks("two marks for one line", x, 2, 0, 0, 2);
        Due.is("mark leaves the present line", x.present(), 2);
        x.mark(0, 1);
        Due.is("mark leaves the present line too", x.present(), 2);
    }

    private static void markTooSmall() {
        for (int n : new int[] {-1, -2, MIN}) {
            for (int m = 0; m < 4; m++) {
                int letter = m;
                for (int size : SIZES) {
                    Quiet.refused("mark(" + m + ", " + n + ")", () -> Desks.busy(size), x -> x.mark(letter, n));
                }
            }
            for (Supplier<LineDesk> make : EMPTY) {
                Quiet.refused("mark(0, " + n + ")", make, x -> x.mark(0, n));
            }
        }
    }

    private static void markTooLarge() {
        for (int size : SIZES) {
            for (int n : new int[] {size + 1, 61, MAX}) {
                for (int m = 0; m < 4; m++) {
                    int letter = m;
                    Quiet.refused("mark(" + m + ", " + n + ")", () -> Desks.busy(size), x -> x.mark(letter, n));
                }
            }
        }
        for (Supplier<LineDesk> make : EMPTY) {
            Quiet.refused("mark(0, 1)", make, x -> x.mark(0, 1));
            Quiet.refused("mark(0, MAX)", make, x -> x.mark(0, MAX));
        }
    }

    private static void markedWithAnyLetter() {
        LineDesk x = Desks.filled(60);
        int[] want = {60, 1, 30, 59};
        for (int m = 0; m < 4; m++) {
            x.mark(m, want[m]);
        }
        for (int letter = -9; letter <= 9; letter++) {
            Due.is("marked(" + letter + ")", x.marked(letter), want[letter & 3]);
        }
        Due.is("marked(MAX)", x.marked(MAX), 59);
        Due.is("marked(MAX - 1)", x.marked(MAX - 1), 30);
        Due.is("marked(MIN)", x.marked(MIN), 60);
        Due.is("marked(MIN + 1)", x.marked(MIN + 1), 1);
    }

    private static void markedNone() {
        LineDesk x = Desks.of(1, 2, 3);
        x.mark(1, 3);
        for (int letter : new int[] {0, 2, 3, 4, -1, -2, MAX, MIN}) {
            Due.is("marked(" + letter + ")", x.marked(letter), 0);
        }
        for (Supplier<LineDesk> make : EMPTY) {
            for (int letter : new int[] {0, 1, 2, 3, -1, 4, MAX, MIN}) {
                Quiet.answers("marked(" + letter + ")", 0, make, y -> y.marked(letter));
            }
        }
    }

    private static void goToEveryLine() {
        LineDesk x = Desks.filled(60);
        for (int n = 1; n <= 60; n++) {
            Due.is("go(" + n + ")", x.go(n), n);
            Due.is("go(" + n + "): present()", x.present(), n);
        }
        LineDesk y = Desks.of(MIN, 0, MAX);
        Due.is("go(1) to MIN", y.go(1), MIN);
        Due.is("go(2) to 0", y.go(2), 0);
        Due.is("go(2) to 0: present()", y.present(), 2);
        Due.is("go(3) to MAX", y.go(3), MAX);
    }

    private static void goTooSmall() {
        for (int size : SIZES) {
            for (int n : new int[] {0, -1, MIN}) {
                Quiet.answers("go(" + n + ")", 0, () -> Desks.busy(size), x -> x.go(n));
            }
        }
    }

    private static void goTooLarge() {
        for (int size : SIZES) {
            for (int n : new int[] {size + 1, 61, MAX}) {
                Quiet.answers("go(" + n + ")", 0, () -> Desks.busy(size), x -> x.go(n));
            }
        }
    }

    private static void goNowhere() {
        for (Supplier<LineDesk> make : EMPTY) {
            for (int n : new int[] {0, 1, 2, -1, MIN, MAX}) {
                Quiet.answers("go(" + n + ")", 0, make, x -> x.go(n));
            }
        }
    }

    private static void presentIsANumber() {
        LineDesk x = Desks.filled(60);
        Due.is("present() behind 60 puts", x.present(), 60);
        x.go(1);
        Due.is("present() of the first", x.present(), 1);
        Quiet.answers("present()", 1, () -> Desks.busy(5), LineDesk::present);
    }

    private static void presentNone() {
        for (Supplier<LineDesk> make : EMPTY) {
            Quiet.answers("present()", 0, make, LineDesk::present);
        }
    }

    private static void lineOfEveryNumber() {
        LineDesk x = Desks.filled(60);
        for (int n = 1; n <= 60; n++) {
            Due.is("line(" + n + ")", x.line(n), n);
        }
        LineDesk y = Desks.of(MIN, -1, 0, MAX);
        Due.is("line(1) MIN", y.line(1), MIN);
        Due.is("line(2) -1", y.line(2), -1);
        Due.is("line(3) 0", y.line(3), 0);
        Due.is("line(4) MAX", y.line(4), MAX);
    }

    private static void lineTooSmall() {
        for (int n : new int[] {0, -1, MIN}) {
            for (int size : SIZES) {
                Quiet.answers("line(" + n + ")", 0, () -> Desks.busy(size), x -> x.line(n));
            }
            for (Supplier<LineDesk> make : EMPTY) {
                Quiet.answers("line(" + n + ")", 0, make, x -> x.line(n));
            }
        }
    }

    private static void lineTooLarge() {
        for (int size : SIZES) {
            for (int n : new int[] {size + 1, 61, MAX}) {
                Quiet.answers("line(" + n + ")", 0, () -> Desks.busy(size), x -> x.line(n));
            }
        }
        for (Supplier<LineDesk> make : EMPTY) {
            Quiet.answers("line(1)", 0, make, x -> x.line(1));
        }
        LineDesk shorter = Desks.of(7, 8, 9);
        shorter.remove(3, 3);
        Due.is("line(3) when it was removed", shorter.line(3), 0);
    }

    private static void linesFromNoneToSixty() {
        LineDesk x = new LineDesk();
        for (int n = 0; n < 60; n++) {
            Due.is("lines() behind " + n + " puts", x.lines(), n);
            x.put(n, 5);
        }
        Due.is("lines() behind 60 puts", x.lines(), 60);
        x.put(0, 5);
        Due.is("lines() behind 61 puts", x.lines(), 60);
        for (int n = 60; n > 0; n--) {
            x.remove(n, n);
            Due.is("lines() behind a remove", x.lines(), n - 1);
        }
        x.remove(1, 1);
        Due.is("lines() behind a remove too many", x.lines(), 0);
    }

    private static void findBehind() {
        LineDesk x = Desks.of(7, 1, 7, 7, 1);
        x.go(1);
        Due.is("find(7) from 1", x.find(7), 3);
        Due.is("find(1) from 1", x.find(1), 2);
        x.go(3);
        Due.is("find(7) from 3", x.find(7), 4);
        LineDesk full = Desks.filled(60);
        full.go(1);
        Due.is("find(60) of 60 from 1", full.find(60), 60);
        Due.is("find(2) of 60 from 1", full.find(2), 2);
    }

    private static void findGoesOn() {
        LineDesk x = Desks.of(7, 7, 1, 2, 3);
        x.go(4);
        Due.is("find(7) from 4", x.find(7), 1);
        Due.is("find(1) from 4", x.find(1), 3);
        LineDesk full = Desks.filled(60);
        full.go(59);
        Due.is("find(58) of 60 from 59", full.find(58), 58);
        Due.is("find(1) of 60 from 59", full.find(1), 1);
    }

    private static void findFromTheLast() {
        LineDesk x = Desks.of(7, 1, 7);
        Due.is("find(7) from 3 of 3", x.find(7), 1);
        Due.is("find(1) from 3 of 3", x.find(1), 2);
        LineDesk full = Desks.filled(60);
        Due.is("find(1) of 60 from 60", full.find(1), 1);
        Due.is("find(59) of 60 from 60", full.find(59), 59);
    }

    private static void findItselfLast() {
        LineDesk x = Desks.of(1, 7, 2);
        x.go(2);
        Due.is("find(7) of the present line alone", x.find(7), 2);
        x.put(0, 7);
        x.go(3);
        Due.is("find(7) of the present line and one before", x.find(7), 1);
        x.go(1);
        Due.is("find(7) of the first and one behind", x.find(7), 3);
        Due.is("find(7) of one line", Desks.of(7).find(7), 1);
        LineDesk full = Desks.filled(60);
        Due.is("find(60) of 60 from 60", full.find(60), 60);
        full.go(1);
        Due.is("find(1) of 60 from 1", full.find(1), 1);
    }

    private static void findNone() {
        LineDesk x = Desks.of(1, 2, 3);
        for (int value : new int[] {0, 4, -1, MIN, MAX}) {
            Due.is("find(" + value + ")", x.find(value), 0);
        }
        x.remove(2, 2);
        Due.is("find(2) when it was removed", x.find(2), 0);
        x.replace(1, 2, 3, 9);
        Due.is("find(3) when it was replaced", x.find(3), 0);
        Due.is("find(61) of 60", Desks.filled(60).find(61), 0);
    }

    private static void findInEmptyText() {
        for (Supplier<LineDesk> make : EMPTY) {
            for (int value : new int[] {0, 1, 2, 3, -1, MIN, MAX}) {
                Quiet.answers("find(" + value + ")", 0, make, x -> x.find(value));
            }
        }
    }

    private static void findChangesNothing() {
        Quiet.answers("find(1000), which is there", 3, () -> Desks.busy(5), x -> x.find(1000));
        Quiet.answers("find(999), which is not", 0, () -> Desks.busy(5), x -> x.find(999));
        Quiet.answers("find(1000), which is there", 31, () -> Desks.busy(60), x -> x.find(1000));
    }
}
