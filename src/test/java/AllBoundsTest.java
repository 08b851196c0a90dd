/** Promise 7: a test for each sentence about all that names a bound. */
public final class AllBoundsTest {
    private static final int MIN = Integer.MIN_VALUE;
    private static final int MAX = Integer.MAX_VALUE;

    public static void main(String[] args) {
        whichLines();
        eachKind();
        presentLine();
        answers();
        Due.end("AllBoundsTest");
    }

    private static void whichLines() {
        Due.sentence("all lines that have the value at the time of the call", AllBoundsTest::copiesAreNotTreated);
        Due.sentence("one after the other in the order in which they stand then", AllBoundsTest::orderOfTheCall);
    }

    private static void eachKind() {
        Due.sentence("kind 0: the line is removed", AllBoundsTest::removal);
        Due.sentence("kind 1: it is moved before the first line", AllBoundsTest::toFront);
        Due.sentence("kind 2: it is moved behind the last line", AllBoundsTest::toEnd);
        Due.sentence("kind 3: a copy comes right behind it", AllBoundsTest::doubling);
        Due.sentence("(if there are fewer than 60 lines then): room for all", AllBoundsTest::doublingUpToSixty);
        Due.sentence("(if there are fewer than 60 lines then): room for some", AllBoundsTest::doublingRunsOutOfRoom);
        Due.sentence("(if there are fewer than 60 lines then): no room", AllBoundsTest::doublingOfAFullText);
        Due.sentence("kind 4: it changes places with the line behind it at that time", AllBoundsTest::swapping);
        Due.sentence("(if there is one): the last line stays", AllBoundsTest::swappingTheLast);
        Due.sentence("at that time: neighbours of the same value", AllBoundsTest::swappingNeighbours);
    }

    private static void presentLine() {
        Due.sentence("the last of these lines that is still in the text", AllBoundsTest::presentIsTheLastOfThese);
        Due.sentence("else, if there were such lines, the last line of the text", AllBoundsTest::presentAfterRemoval);
        Due.sentence("(none if it is empty)", AllBoundsTest::presentWhenNothingIsLeft);
        Due.sentence("else as before", AllBoundsTest::presentAsBefore);
    }

    private static void answers() {
        Due.sentence("Answers how many lines had the value", AllBoundsTest::howMany);
        Due.sentence("how many: in an empty text", AllBoundsTest::howManyOfNone);
        Due.sentence("-1 if kind is not from 0: too small", () -> wrongKinds(-1, MIN));
        Due.sentence("-1 if kind is not [..] to 4: too large", () -> wrongKinds(5, MAX));
    }

    private static void copiesAreNotTreated() {
        LineDesk x = Desks.of(7, 7);
        Due.is("all(7, 3)", x.all(7, 3), 2);
        Desks.text("all(7, 3)", x, 7, 7, 7, 7);
    }

    private static void orderOfTheCall() {
        LineDesk front = Desks.of(7, 1, 7, 7);
        marks(front, 1, 3, 4);
        front.all(7, 1);
        Desks.marks("all(7, 1): the one treated last is first", front, 3, 2, 1);
        LineDesk end = Desks.of(7, 7, 1, 7);
        marks(end, 1, 2, 4);
        end.all(7, 2);
        Desks.marks("all(7, 2): the one treated last is last", end, 2, 3, 4);
    }

    private static void marks(LineDesk x, int... numbers) {
        for (int m = 0; m < numbers.length; m++) {
            x.mark(m, numbers[m]);
        }
    }

    private static void removal() {
        LineDesk x = Desks.of(7, 1, 7, 7, 2, 7);
        Due.is("all(7, 0)", x.all(7, 0), 4);
        Desks.text("all(7, 0) at both ends and between", x, 1, 2);
    }

    private static void toFront() {
        LineDesk x = Desks.of(1, 7, 2, 7);
        Due.is("all(7, 1)", x.all(7, 1), 2);
        Desks.text("all(7, 1)", x, 7, 7, 1, 2);
        LineDesk first = Desks.of(7, 1, 2);
        Due.is("all(7, 1) of the first line", first.all(7, 1), 1);
        Desks.text("all(7, 1) of the first line", first, 7, 1, 2);
        LineDesk full = Desks.filled(60);
        full.all(60, 1);
        Due.is("all(60, 1) of 60: line(1)", full.line(1), 60);
        Due.is("all(60, 1) of 60: line(60)", full.line(60), 59);
    }

    private static void toEnd() {
        LineDesk x = Desks.of(7, 1, 7, 2);
        Due.is("all(7, 2)", x.all(7, 2), 2);
        Desks.text("all(7, 2)", x, 1, 2, 7, 7);
        LineDesk last = Desks.of(1, 2, 7);
        Due.is("all(7, 2) of the last line", last.all(7, 2), 1);
        Desks.text("all(7, 2) of the last line", last, 1, 2, 7);
        LineDesk full = Desks.filled(60);
        full.all(1, 2);
        Due.is("all(1, 2) of 60: line(1)", full.line(1), 2);
        Due.is("all(1, 2) of 60: line(60)", full.line(60), 1);
    }

    private static void doubling() {
        LineDesk x = Desks.of(7, 1, 7);
        marks(x, 1, 2, 3);
        Due.is("all(7, 3)", x.all(7, 3), 2);
        Desks.text("all(7, 3)", x, 7, 7, 1, 7, 7);
        Desks.marks("all(7, 3): the copy is the one behind", x, 1, 3, 4);
    }

    private static void doublingUpToSixty() {
        LineDesk x = new LineDesk();
        for (int n = 0; n < 30; n++) {
            x.put(0, 7);
        }
        Due.is("all(7, 3) of 30", x.all(7, 3), 30);
        Due.is("all(7, 3) of 30: lines()", x.lines(), 60);
        Due.is("all(7, 3) of 30: present()", x.present(), 59);
        LineDesk y = Desks.filled(59);
        Due.is("all(59, 3) of 59", y.all(59, 3), 1);
        Due.is("all(59, 3) of 59: line(60)", y.line(60), 59);
    }

    private static void doublingRunsOutOfRoom() {
        LineDesk x = Desks.filled(58);
        x.replace(1, 1, 1, 0);
        x.replace(20, 20, 20, 0);
        x.replace(40, 40, 40, 0);
        x.replace(58, 58, 58, 0);
        Due.is("all(0, 3) of 58", x.all(0, 3), 4);
        Due.is("all(0, 3) of 58: lines()", x.lines(), 60);
        int[][] want = {{1, 0}, {2, 0}, {3, 2}, {20, 19}, {21, 0}, {22, 0}, {23, 21}, {42, 0}, {43, 41}, {59, 57}, {60, 0}};
        for (int[] w : want) {
            Due.is("all(0, 3) of 58: line(" + w[0] + ")", x.line(w[0]), w[1]);
        }
        Due.is("all(0, 3) of 58: present()", x.present(), 60);
    }

    private static void doublingOfAFullText() {
        LineDesk x = Desks.filled(60);
        int[] before = Desks.look(x);
        Due.is("all(60, 3) of 60", x.all(60, 3), 1);
        Desks.same("all(60, 3) of 60", Desks.look(x), before);
        Due.is("all(5, 3) of 60", x.all(5, 3), 1);
        Due.is("all(5, 3) of 60: lines()", x.lines(), 60);
        Due.is("all(5, 3) of 60: line(6)", x.line(6), 6);
        Due.is("all(5, 3) of 60: present()", x.present(), 5);
    }

    private static void swapping() {
        LineDesk x = Desks.of(7, 1, 2, 7, 3);
        marks(x, 1, 2, 4, 5);
        Due.is("all(7, 4)", x.all(7, 4), 2);
        Desks.text("all(7, 4)", x, 1, 7, 2, 3, 7);
        Desks.marks("all(7, 4)", x, 2, 1, 5, 4);
    }

    private static void swappingTheLast() {
        LineDesk x = Desks.of(1, 2, 7);
        Due.is("all(7, 4) of the last line", x.all(7, 4), 1);
        Desks.text("all(7, 4) of the last line", x, 1, 2, 7);
        LineDesk one = Desks.of(7);
        Due.is("all(7, 4) of one line", one.all(7, 4), 1);
        Desks.text("all(7, 4) of one line", one, 7);
        LineDesk full = Desks.filled(60);
        Due.is("all(60, 4) of 60", full.all(60, 4), 1);
        Due.is("all(60, 4) of 60: line(60)", full.line(60), 60);
        full.all(59, 4);
        Due.is("all(59, 4) of 60: line(59)", full.line(59), 60);
        Due.is("all(59, 4) of 60: line(60)", full.line(60), 59);
    }

    private static void swappingNeighbours() {
        LineDesk x = Desks.of(7, 7, 1);
        marks(x, 1, 2, 3);
        x.all(7, 4);
        Desks.marks("all(7, 4): two go behind each other and are as before", x, 1, 2, 3);
        LineDesk y = Desks.of(7, 7, 7, 1);
        marks(y, 1, 2, 3, 4);
        y.all(7, 4);
        Desks.marks("all(7, 4): the third passes the line behind", y, 1, 2, 4, 3);
        LineDesk z = Desks.of(7, 1, 7);
        marks(z, 1, 2, 3);
        z.all(7, 4);
        Desks.marks("all(7, 4): the first meets the last, which stays", z, 2, 1, 3);
    }

    private static void presentIsTheLastOfThese() {
        for (int kind = 1; kind <= 4; kind++) {
            LineDesk x = Desks.of(1, 7, 2, 7, 3);
            x.mark(0, 4);
            x.go(1);
            x.all(7, kind);
            // The last in the order of the call: kind 1 has put it before the others of these.
            int want = kind == 1 ? 1 : 5;
            Due.is("all(7, " + kind + "): present()", x.present(), want);
            Due.is("all(7, " + kind + "): it is the marked line", x.marked(0), want);
        }
    }

    private static void presentAfterRemoval() {
        LineDesk x = Desks.of(7, 1, 7, 2, 3);
        x.go(2);
        x.all(7, 0);
        Due.is("all(7, 0): present()", x.present(), 3);
        LineDesk y = Desks.of(1, 2, 7);
        y.go(1);
        y.all(7, 0);
        Due.is("all(7, 0) of the last line: present()", y.present(), 2);
    }

    private static void presentWhenNothingIsLeft() {
        LineDesk x = Desks.of(7, 7, 7);
        Due.is("all(7, 0)", x.all(7, 0), 3);
        Due.is("all(7, 0): present()", x.present(), 0);
        Due.is("all(7, 0): lines()", x.lines(), 0);
        Due.is("put(0, 7) then", x.put(0, 7), 1);
        Due.is("put(0, 7) then: present()", x.present(), 1);
    }

    private static void presentAsBefore() {
        for (int kind = 0; kind <= 4; kind++) {
            for (int n = 1; n <= 3; n++) {
                LineDesk x = Desks.of(1, 2, 3);
                x.mark(2, 3);
                x.go(n);
                int[] before = Desks.look(x);
                Due.is("all(9, " + kind + ")", x.all(9, kind), 0);
                Desks.same("all(9, " + kind + ") with present line " + n, Desks.look(x), before);
            }
        }
    }

    private static void howMany() {
        for (int kind = 0; kind <= 4; kind++) {
            Due.is("all(7, " + kind + ") of one", Desks.of(1, 7, 2).all(7, kind), 1);
            Due.is("all(7, " + kind + ") of three", Desks.of(7, 7, 2, 7).all(7, kind), 3);
            Due.is("all(MIN, " + kind + ")", Desks.of(MIN, MAX, MIN).all(MIN, kind), 2);
            LineDesk full = new LineDesk();
            for (int n = 0; n < 60; n++) {
                full.put(0, 0);
            }
            Due.is("all(0, " + kind + ") of 60", full.all(0, kind), 60);
            Due.is("all(0, " + kind + ") of 60: lines()", full.lines(), kind == 0 ? 0 : 60);
        }
    }

    private static void howManyOfNone() {
        for (int kind = 0; kind <= 4; kind++) {
            for (LineDesk x : new LineDesk[] {new LineDesk(), Desks.emptied()}) {
                // 0 and 1 may still lie where lines are held, but no line of the text has them.
                Due.is("all(0, " + kind + ")", x.all(0, kind), 0);
                Due.is("all(1, " + kind + ")", x.all(1, kind), 0);
                Due.is("all(1, " + kind + "): present()", x.present(), 0);
                Desks.text("all(1, " + kind + ")", x);
            }
        }
    }

    private static void wrongKinds(int... kinds) {
        for (int kind : kinds) {
            String call = ", " + kind + ")";
            Quiet.refused("all(0" + call, LineDesk::new, x -> x.all(0, kind));
            Quiet.refused("all(1" + call, Desks::emptied, x -> x.all(1, kind));
            for (int n : new int[] {1, 5, 60}) {
                Quiet.refused("all(1000" + call, () -> Desks.busy(n), x -> x.all(1000, kind));
                Quiet.refused("all(999" + call, () -> Desks.busy(n), x -> x.all(999, kind));
            }
        }
    }
}
