import java.util.List;
import java.util.function.Supplier;

/** Promises 1 to 6: a test for each sentence that names a bound of put or of a range of lines. */
public final class RangeBoundsTest {
    private static final int MIN = Integer.MIN_VALUE;
    private static final int MAX = Integer.MAX_VALUE;
    private static final int[] SIZES = {1, 2, 5, 60};
    private static final List<Supplier<LineDesk>> EMPTY = List.of(LineDesk::new, Desks::emptied);

    private interface RangeCall {
        int on(LineDesk x, int from, int to);
    }

    public static void main(String[] args) {
        newObject();
        put();
        remove();
        move();
        copy();
        replace();
        Due.end("RangeBoundsTest");
    }

    private static void newObject() {
        Due.sentence("An empty text", RangeBoundsTest::newTextIsEmpty);
        Due.sentence("no mark", RangeBoundsTest::newMarksAreNone);
    }

    private static void put() {
        Due.sentence("A new line with the value comes behind line at", RangeBoundsTest::putBehindEveryLine);
        Due.sentence("(0: before the first one)", RangeBoundsTest::putBeforeTheFirst);
        Due.sentence("it is the present line then. Answers its number", RangeBoundsTest::putIsPresent);
        Due.sentence("-1 also if at is not from 0: too small", RangeBoundsTest::putTooSmall);
        Due.sentence("-1 also if at is not [..] to the number of lines: too large", RangeBoundsTest::putTooLarge);
        Due.sentence("or there are 60", RangeBoundsTest::putWhenFull);
    }

    private static void remove() {
        Due.sentence("Removes the lines from the one number to the other", RangeBoundsTest::removeEveryRange);
        Due.sentence("The present line is the one behind them then", RangeBoundsTest::removePresentBehind);
        Due.sentence("or the last line if there is none", RangeBoundsTest::removePresentLast);
        Due.sentence("or the last line if there is none: no line is left", RangeBoundsTest::removeWholeText);
        wrongRanges("remove", (x, from, to) -> x.remove(from, to));
    }

    private static void move() {
        Due.sentence("behind line dest (as numbered before), in their order", RangeBoundsTest::moveEverywhere);
        Due.sentence("The last of them is the present line then. Answers its number", RangeBoundsTest::moveIsPresent);
        Due.sentence("dest is from 0: before the first line", RangeBoundsTest::moveToFront);
        Due.sentence("dest is to the number of lines: behind the last line", RangeBoundsTest::moveToEnd);
        Due.sentence("dest = to [leaves] the order as it is", RangeBoundsTest::moveBehindItself);
        Due.sentence("dest = from - 1 [leaves] the order as it is", RangeBoundsTest::moveBeforeItself);
        Due.sentence("or from <= dest < to", RangeBoundsTest::moveIntoItself);
        wrongRanges("move", (x, from, to) -> x.move(from, to, 0));
        Due.sentence("move: dest is not from 0 to the number of lines", () -> {
            wrongPlaces("move", (x, n, dest) -> x.move(n, n, dest));
            Quiet.refused("move(1, 1, 61)", () -> Desks.busy(60), x -> x.move(1, 1, 61));
            Quiet.refused("move(60, 60, -1)", () -> Desks.busy(60), x -> x.move(60, 60, -1));
        });
    }

    private static void copy() {
        Due.sentence("Puts copies [..] behind line dest [..], in their order", RangeBoundsTest::copyEverywhere);
        Due.sentence("the last copy is the present line then. Answers its number", RangeBoundsTest::copyIsPresent);
        Due.sentence("(from 0 to the number of lines)", RangeBoundsTest::copyToTheEnds);
        Due.sentence("copies: dest in the midst of its own range", RangeBoundsTest::copyIntoItself);
        Due.sentence("or there would be more than 60 lines", RangeBoundsTest::copyOverSixty);
        Due.sentence("not more than 60 lines: 60 are allowed", RangeBoundsTest::copyUpToSixty);
        wrongRanges("copy", (x, from, to) -> x.copy(from, to, 0));
        Due.sentence("copy: dest is not as said", () ->
                wrongPlaces("copy", (x, n, dest) -> x.copy(n, n, dest)));
    }

    private static void replace() {
        Due.sentence("Each of the lines from the one number to the other", RangeBoundsTest::replaceEveryRange);
        Due.sentence("The last of these is the present line then", RangeBoundsTest::replaceIsPresent);
        Due.sentence("(if there is any)", RangeBoundsTest::replaceNone);
        Due.sentence("Answers how many there are", RangeBoundsTest::replaceCounts);
        wrongRanges("replace", (x, from, to) -> x.replace(from, to, 1, 9));
    }

    private static void wrongRanges(String name, RangeCall call) {
        Due.sentence(name + ": not 1 <= from", () -> {
            for (int from : new int[] {0, -1, MIN}) {
                wrongRange(name, call, from, 1);
                wrongRange(name, call, from, from);
            }
        });
        Due.sentence(name + ": not from <= to", () -> {
            wrongRange(name, call, 2, 1);
            wrongRange(name, call, 1, 0);
            wrongRange(name, call, 1, MIN);
            wrongRange(name, call, MAX, 1);
            for (int n : SIZES) {
                Quiet.refused(name + "(" + n + ", " + (n - 1) + ")", () -> Desks.busy(n), x -> call.on(x, n, n - 1));
            }
        });
        Due.sentence(name + ": not to <= the number of lines", () -> {
            wrongRange(name, call, 1, 61);
            wrongRange(name, call, 1, MAX);
            wrongRange(name, call, MAX, MAX);
            for (int n : SIZES) {
                int more = n + 1;
                Quiet.refused(name + "(1, " + more + ")", () -> Desks.busy(n), x -> call.on(x, 1, more));
                Quiet.refused(name + "(" + more + ", " + more + ")", () -> Desks.busy(n), x -> call.on(x, more, more));
            }
        });
        Due.sentence(name + ": no range is as said in an empty text", () -> {
            for (Supplier<LineDesk> make : EMPTY) {
                Quiet.refused(name + "(1, 1)", make, x -> call.on(x, 1, 1));
                Quiet.refused(name + "(0, 0)", make, x -> call.on(x, 0, 0));
                Quiet.refused(name + "(1, 0)", make, x -> call.on(x, 1, 0));
            }
        });
    }

    private static void wrongRange(String name, RangeCall call, int from, int to) {
        for (int n : SIZES) {
            Quiet.refused(name + "(" + from + ", " + to + ")", () -> Desks.busy(n), x -> call.on(x, from, to));
        }
    }

    /** The second number of the call is dest here; the range is the first line and the last line. */
    private static void wrongPlaces(String name, RangeCall call) {
        // Not 60 lines: copy would be refused for want of room there, whatever dest is.
        for (int n : new int[] {1, 2, 5, 59}) {
            for (int dest : new int[] {-1, MIN, n + 1, MAX}) {
                Quiet.refused(name + " of line 1 behind " + dest, () -> Desks.busy(n), x -> call.on(x, 1, dest));
                Quiet.refused(name + " of line " + n + " behind " + dest, () -> Desks.busy(n), x -> call.on(x, n, dest));
            }
        }
    }

    private static void newTextIsEmpty() {
        LineDesk x = new LineDesk();
        Desks.text("new", x);
        Due.is("line(0)", x.line(0), 0);
        Due.is("present()", x.present(), 0);
        Desks.of(1, 2);
        Due.is("lines() of a new one beside another", new LineDesk().lines(), 0);
    }

    private static void newMarksAreNone() {
        Desks.marks("new", new LineDesk(), 0, 0, 0, 0);
        LineDesk x = new LineDesk();
        for (int n = 0; n < 60; n++) {
            x.put(0, n);
        }
        Desks.marks("a full text in which no mark was set", x, 0, 0, 0, 0);
    }

    private static void putBehindEveryLine() {
        for (int at = 0; at <= 4; at++) {
            LineDesk x = Desks.filled(4);
            x.put(at, 99);
            Desks.text("put(" + at + ")", x, with(new int[] {1, 2, 3, 4}, at, 99));
        }
    }

    private static int[] with(int[] row, int index, int... more) {
        int[] longer = new int[row.length + more.length];
        System.arraycopy(row, 0, longer, 0, index);
        System.arraycopy(more, 0, longer, index, more.length);
        System.arraycopy(row, index, longer, index + more.length, row.length - index);
        return longer;
    }

    private static void putBeforeTheFirst() {
        LineDesk x = new LineDesk();
        Due.is("put(0, 5) in an empty text", x.put(0, 5), 1);
        Due.is("put(0, 6)", x.put(0, 6), 1);
        Desks.text("put(0, 6)", x, 6, 5);
    }

    private static void putIsPresent() {
        for (int at = 0; at <= 4; at++) {
            LineDesk x = Desks.filled(4);
            x.go(2);
            Due.is("put(" + at + ")", x.put(at, 99), at + 1);
            Due.is("put(" + at + "): present()", x.present(), at + 1);
        }
        LineDesk last = Desks.filled(59);
        Due.is("put(59) of 59", last.put(59, 99), 60);
        Due.is("put(59) of 59: present()", last.present(), 60);
    }

    private static void putTooSmall() {
        for (int at : new int[] {-1, -2, MIN}) {
            for (Supplier<LineDesk> make : EMPTY) {
                Quiet.refused("put(" + at + ")", make, x -> x.put(at, 9));
            }
            for (int n : SIZES) {
                Quiet.refused("put(" + at + ")", () -> Desks.busy(n), x -> x.put(at, 9));
            }
        }
    }

    private static void putTooLarge() {
        for (Supplier<LineDesk> make : EMPTY) {
            Quiet.refused("put(1)", make, x -> x.put(1, 9));
            Quiet.refused("put(MAX)", make, x -> x.put(MAX, 9));
        }
        for (int n : new int[] {1, 2, 5, 59}) {
            Quiet.refused("put(" + (n + 1) + ")", () -> Desks.busy(n), x -> x.put(n + 1, 9));
            Quiet.refused("put(60)", () -> Desks.busy(n), x -> x.put(60, 9));
            Quiet.refused("put(MAX)", () -> Desks.busy(n), x -> x.put(MAX, 9));
        }
    }

    private static void putWhenFull() {
        LineDesk room = Desks.busy(59);
        Due.is("put(0) of 59", room.put(0, 9), 1);
        Due.is("put(0) of 59: lines()", room.lines(), 60);
        for (int at = 0; at <= 60; at++) {
            int place = at;
            Quiet.refused("put(" + at + ")", () -> Desks.busy(60), x -> x.put(place, 9));
        }
        LineDesk again = Desks.filled(60);
        again.remove(60, 60);
        Due.is("put(59) after one was removed of 60", again.put(59, 9), 60);
    }

    private static void removeEveryRange() {
        for (int from = 1; from <= 5; from++) {
            for (int to = from; to <= 5; to++) {
                LineDesk x = Desks.filled(5);
                Due.is("remove(" + from + ", " + to + ")", x.remove(from, to), to - from + 1);
                int[] left = new int[5 - (to - from + 1)];
                for (int i = 0; i < left.length; i++) {
                    left[i] = i + 1 < from ? i + 1 : to + (i + 2 - from);
                }
                Desks.text("remove(" + from + ", " + to + ")", x, left);
            }
        }
        LineDesk full = Desks.filled(60);
        Due.is("remove(1, 60) of 60", full.remove(1, 60), 60);
        Due.is("remove(1, 60) of 60: lines()", full.lines(), 0);
    }

    private static void removePresentBehind() {
        LineDesk x = Desks.filled(5);
        x.remove(1, 2);
        Due.is("remove(1, 2) of 5: present()", x.present(), 1);
        Due.is("remove(1, 2) of 5: its value", x.line(x.present()), 3);
        LineDesk y = Desks.filled(5);
        y.go(1);
        y.remove(2, 4);
        Due.is("remove(2, 4) of 5: present()", y.present(), 2);
        Due.is("remove(2, 4) of 5: its value", y.line(y.present()), 5);
        LineDesk full = Desks.filled(60);
        full.remove(59, 59);
        Due.is("remove(59, 59) of 60: its value", full.line(full.present()), 60);
    }

    private static void removePresentLast() {
        LineDesk x = Desks.filled(5);
        x.go(1);
        x.remove(4, 5);
        Due.is("remove(4, 5) of 5: present()", x.present(), 3);
        LineDesk y = Desks.filled(2);
        y.remove(2, 2);
        Due.is("remove(2, 2) of 2: present()", y.present(), 1);
        LineDesk full = Desks.filled(60);
        full.go(7);
        full.remove(60, 60);
        Due.is("remove(60, 60) of 60: present()", full.present(), 59);
    }

    private static void removeWholeText() {
        for (int n : SIZES) {
            LineDesk x = Desks.busy(n);
            Due.is("remove(1, " + n + ")", x.remove(1, n), n);
            Due.is("remove(1, " + n + "): present()", x.present(), 0);
            Desks.text("remove(1, " + n + ")", x);
        }
    }

    private static void moveEverywhere() {
        for (int from = 1; from <= 5; from++) {
            for (int to = from; to <= 5; to++) {
                for (int dest = 0; dest <= 5; dest++) {
                    if (dest < from || dest >= to) {
                        moveOnce(from, to, dest);
                    }
                }
            }
        }
    }

    private static void moveOnce(int from, int to, int dest) {
        LineDesk x = Desks.filled(5);
        x.move(from, to, dest);
        int[] want = new int[5];
        int next = 0;
        for (int place = 0; place <= 5; place++) {
            if (place > 0 && (place < from || place > to)) {
                want[next++] = place;
            }
            for (int n = from; place == dest && n <= to; n++) {
                want[next++] = n;
            }
        }
        Desks.text("move(" + from + ", " + to + ", " + dest + ")", x, want);
    }

    private static void moveIsPresent() {
        LineDesk x = Desks.filled(6);
        Due.is("move(2, 3, 5)", x.move(2, 3, 5), 5);
        Due.is("move(2, 3, 5): present()", x.present(), 5);
        Due.is("move(2, 3, 5): its value", x.line(5), 3);
        Due.is("move(4, 6, 1)", x.move(4, 6, 1), 4);
        Due.is("move(4, 6, 1): present()", x.present(), 4);
        Due.is("move(4, 6, 1): its value", x.line(4), 6);
    }

    private static void moveToFront() {
        LineDesk x = Desks.filled(4);
        Due.is("move(3, 4, 0)", x.move(3, 4, 0), 2);
        Desks.text("move(3, 4, 0)", x, 3, 4, 1, 2);
        LineDesk full = Desks.filled(60);
        Due.is("move(60, 60, 0) of 60", full.move(60, 60, 0), 1);
        Due.is("move(60, 60, 0) of 60: line(1)", full.line(1), 60);
        Due.is("move(60, 60, 0) of 60: line(60)", full.line(60), 59);
    }

    private static void moveToEnd() {
        LineDesk x = Desks.filled(4);
        Due.is("move(1, 2, 4)", x.move(1, 2, 4), 4);
        Desks.text("move(1, 2, 4)", x, 3, 4, 1, 2);
        LineDesk full = Desks.filled(60);
        Due.is("move(1, 59, 60) of 60", full.move(1, 59, 60), 60);
        Due.is("move(1, 59, 60) of 60: line(1)", full.line(1), 60);
        Due.is("move(1, 59, 60) of 60: line(60)", full.line(60), 59);
    }

    private static void moveBehindItself() {
        for (int from = 1; from <= 4; from++) {
            for (int to = from; to <= 4; to++) {
                stays(from, to, to);
            }
        }
    }

    private static void moveBeforeItself() {
        for (int from = 1; from <= 4; from++) {
            for (int to = from; to <= 4; to++) {
                stays(from, to, from - 1);
            }
        }
    }

    private static void stays(int from, int to, int dest) {
        String call = "move(" + from + ", " + to + ", " + dest + ")";
        LineDesk x = Desks.filled(4);
        x.go(to % 4 + 1);
        x.mark(0, from);
        Due.is(call, x.move(from, to, dest), to);
        Desks.text(call, x, 1, 2, 3, 4);
        Due.is(call + ": present()", x.present(), to);
        Due.is(call + ": marked(0)", x.marked(0), from);
    }

    private static void moveIntoItself() {
        for (int from = 1; from <= 5; from++) {
            for (int to = from + 1; to <= 5; to++) {
                for (int dest = from; dest < to; dest++) {
                    int a = from;
                    int b = to;
                    int c = dest;
                    Quiet.refused("move(" + a + ", " + b + ", " + c + ")", () -> Desks.busy(5), x -> x.move(a, b, c));
                }
            }
        }
        Quiet.refused("move(1, 60, 59)", () -> Desks.busy(60), x -> x.move(1, 60, 59));
        Quiet.refused("move(1, 60, 1)", () -> Desks.busy(60), x -> x.move(1, 60, 1));
    }

    private static void copyEverywhere() {
        int[] row = {1, 2, 3, 4};
        for (int from = 1; from <= 4; from++) {
            for (int to = from; to <= 4; to++) {
                for (int dest = 0; dest <= 4; dest++) {
                    LineDesk x = Desks.filled(4);
                    x.copy(from, to, dest);
                    int[] copies = new int[to - from + 1];
                    System.arraycopy(row, from - 1, copies, 0, copies.length);
                    Desks.text("copy(" + from + ", " + to + ", " + dest + ")", x, with(row, dest, copies));
                }
            }
        }
    }

    private static void copyIsPresent() {
        LineDesk x = Desks.filled(4);
        x.go(1);
        Due.is("copy(2, 3, 1)", x.copy(2, 3, 1), 3);
        Due.is("copy(2, 3, 1): present()", x.present(), 3);
        Due.is("copy(1, 1, 6)", x.copy(1, 1, 6), 7);
        Due.is("copy(1, 1, 6): present()", x.present(), 7);
    }

    private static void copyToTheEnds() {
        for (int n : new int[] {1, 2, 5, 30}) {
            LineDesk front = Desks.filled(n);
            Due.is("copy(1, n, 0) of " + n, front.copy(1, n, 0), n);
            Due.is("copy(1, n, 0) of " + n + ": lines()", front.lines(), 2 * n);
            LineDesk end = Desks.filled(n);
            Due.is("copy(1, n, n) of " + n, end.copy(1, n, n), 2 * n);
            Due.is("copy(1, n, n) of " + n + ": first copy", end.line(n + 1), 1);
            Due.is("copy(1, n, n) of " + n + ": last copy", end.line(2 * n), n);
        }
    }

    private static void copyIntoItself() {
        LineDesk x = Desks.filled(4);
        x.mark(0, 2);
        x.mark(1, 3);
        Due.is("copy(1, 4, 2)", x.copy(1, 4, 2), 6);
        Desks.text("copy(1, 4, 2)", x, 1, 2, 1, 2, 3, 4, 3, 4);
        Desks.marks("copy(1, 4, 2)", x, 2, 7);
        LineDesk full = Desks.filled(30);
        Due.is("copy(1, 30, 15) of 30", full.copy(1, 30, 15), 45);
        Due.is("copy(1, 30, 15) of 30: line(15)", full.line(15), 15);
        Due.is("copy(1, 30, 15) of 30: line(16)", full.line(16), 1);
        Due.is("copy(1, 30, 15) of 30: line(45)", full.line(45), 30);
        Due.is("copy(1, 30, 15) of 30: line(46)", full.line(46), 16);
    }

    private static void copyOverSixty() {
        for (int dest : new int[] {0, 1, 40}) {
            Quiet.refused("copy(1, 21, " + dest + ")", () -> Desks.busy(40), x -> x.copy(1, 21, dest));
            Quiet.refused("copy(1, 40, " + dest + ")", () -> Desks.busy(40), x -> x.copy(1, 40, dest));
            Quiet.refused("copy(20, 40, " + dest + ")", () -> Desks.busy(40), x -> x.copy(20, 40, dest));
        }
        Quiet.refused("copy(1, 2, 0)", () -> Desks.busy(59), x -> x.copy(1, 2, 0));
        Quiet.refused("copy(1, 1, 0)", () -> Desks.busy(60), x -> x.copy(1, 1, 0));
        Quiet.refused("copy(60, 60, 60)", () -> Desks.busy(60), x -> x.copy(60, 60, 60));
        Quiet.refused("copy(1, 60, 60)", () -> Desks.busy(60), x -> x.copy(1, 60, 60));
    }

    private static void copyUpToSixty() {
        LineDesk x = Desks.filled(40);
        Due.is("copy(21, 40, 40) of 40", x.copy(21, 40, 40), 60);
        Due.is("copy(21, 40, 40) of 40: lines()", x.lines(), 60);
        Due.is("copy(21, 40, 40) of 40: line(41)", x.line(41), 21);
        Due.is("copy(21, 40, 40) of 40: line(60)", x.line(60), 40);
        LineDesk y = Desks.filled(59);
        Due.is("copy(59, 59, 0) of 59", y.copy(59, 59, 0), 1);
        Due.is("copy(59, 59, 0) of 59: lines()", y.lines(), 60);
        Due.is("copy(59, 59, 0) of 59: line(60)", y.line(60), 59);
    }

    private static void replaceEveryRange() {
        for (int from = 1; from <= 4; from++) {
            for (int to = from; to <= 4; to++) {
                LineDesk x = Desks.of(7, 7, 7, 7);
                x.replace(from, to, 7, 8);
                int[] want = new int[4];
                for (int n = 1; n <= 4; n++) {
                    want[n - 1] = from <= n && n <= to ? 8 : 7;
                }
                Desks.text("replace(" + from + ", " + to + ")", x, want);
            }
        }
    }

    private static void replaceIsPresent() {
        LineDesk x = Desks.of(7, 7, 1, 7, 2);
        x.go(1);
        x.replace(1, 5, 7, 8);
        Due.is("replace(1, 5): present()", x.present(), 4);
        x.replace(1, 3, 8, 9);
        Due.is("replace(1, 3): present()", x.present(), 2);
        x.replace(5, 5, 2, 2);
        Due.is("replace(5, 5) by the same: present()", x.present(), 5);
    }

    private static void replaceNone() {
        LineDesk x = Desks.of(7, 1, 7);
        x.go(1);
        Due.is("replace(2, 2, 7)", x.replace(2, 2, 7, 9), 0);
        Due.is("replace(2, 2, 7): present()", x.present(), 1);
        Due.is("replace(1, 3, 5)", x.replace(1, 3, 5, 9), 0);
        Due.is("replace(1, 3, 5): present()", x.present(), 1);
        Desks.text("replace of none", x, 7, 1, 7);
    }

    private static void replaceCounts() {
        LineDesk x = Desks.of(MIN, 0, MAX, 0, -1);
        Due.is("replace of one", x.replace(1, 5, MIN, MAX), 1);
        Due.is("replace of two", x.replace(1, 5, MAX, 0), 2);
        Due.is("replace of four", x.replace(1, 5, 0, -1), 4);
        Due.is("replace of all by the same", x.replace(1, 5, -1, -1), 5);
        Desks.text("replace", x, -1, -1, -1, -1, -1);
    }
}
