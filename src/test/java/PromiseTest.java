/** Each promise of the document: ordinary inputs, the edges it names, and wrong inputs. */
public final class PromiseTest {
    private static final int MIN = Integer.MIN_VALUE;
    private static final int MAX = Integer.MAX_VALUE;

    public static void main(String[] args) {
        newObject();
        put();
        putRefused();
        putFull();
        remove();
        removeRefused();
        move();
        moveKeepsOrder();
        moveRefused();
        copy();
        copyInsideItsRange();
        copyLimits();
        replace();
        replaceRefused();
        allRemove();
        allToFront();
        allToEnd();
        allDouble();
        allDoubleUpToSixty();
        allSwap();
        allOthers();
        mark();
        markRefused();
        marksFollowLines();
        go();
        presentAndLines();
        line();
        find();
        undo();
        undoTakesMarkAndGoBack();
        undoOfChangesThatAlterNothing();
        undoAfterRefusal();
        undoOfEveryChange();
        Due.end("PromiseTest");
    }

    private static LineDesk desk(int... values) {
        LineDesk x = new LineDesk();
        for (int i = 0; i < values.length; i++) {
            x.put(i, values[i]);
        }
        return x;
    }

    private static LineDesk filled(int count) {
        LineDesk x = new LineDesk();
        for (int i = 0; i < count; i++) {
            x.put(i, i + 1);
        }
        return x;
    }

    private static void text(String what, LineDesk x, int... want) {
        Due.is(what + ": lines()", x.lines(), want.length);
        for (int i = 0; i < want.length; i++) {
            Due.is(what + ": line(" + (i + 1) + ")", x.line(i + 1), want[i]);
        }
        Due.is(what + ": line behind the last", x.line(want.length + 1), 0);
    }

    private static void newObject() {
        LineDesk x = new LineDesk();
        text("new", x);
        Due.is("new: present()", x.present(), 0);
        for (int m = 0; m < 4; m++) {
            Due.is("new: marked(" + m + ")", x.marked(m), 0);
        }
        Due.is("new: undo()", x.undo(), 0);
        Due.is("new: find(0)", x.find(0), 0);
        LineDesk y = desk(1, 2);
        Due.is("new: objects are apart", new LineDesk().lines(), 0);
        text("new: objects are apart", y, 1, 2);
    }

    private static void put() {
        LineDesk x = new LineDesk();
        Due.is("put first", x.put(0, 5), 1);
        Due.is("put: present", x.present(), 1);
        Due.is("put before the first", x.put(0, -6), 1);
        Due.is("put behind the last", x.put(2, 7), 3);
        Due.is("put between", x.put(1, MIN), 2);
        Due.is("put between: present", x.present(), 2);
        text("put", x, -6, MIN, 5, 7);
    }

    private static void putRefused() {
        LineDesk x = desk(1, 2);
        x.go(1);
        Due.is("put(-1)", x.put(-1, 9), -1);
        Due.is("put(3) of 2", x.put(3, 9), -1);
        Due.is("put(MIN)", x.put(MIN, 9), -1);
        Due.is("put(MAX)", x.put(MAX, 9), -1);
        text("put refused", x, 1, 2);
        Due.is("put refused: present", x.present(), 1);
    }

    private static void putFull() {
        LineDesk x = filled(59);
        Due.is("put the 60th", x.put(59, 60), 60);
        Due.is("put the 61st behind", x.put(60, 61), -1);
        Due.is("put the 61st before", x.put(0, 61), -1);
        Due.is("put full: lines", x.lines(), 60);
        Due.is("put full: last", x.line(60), 60);
        x.remove(1, 1);
        Due.is("put after a remove", x.put(0, 77), 1);
        Due.is("put after a remove: lines", x.lines(), 60);
    }

    private static void remove() {
        LineDesk x = desk(1, 2, 3, 4, 5);
        x.mark(0, 1);
        x.mark(1, 2);
        x.mark(2, 3);
        x.mark(3, 5);
        x.go(1);
        Due.is("remove(2, 3)", x.remove(2, 3), 2);
        text("remove", x, 1, 4, 5);
        Due.is("remove: present is the one behind", x.present(), 2);
        Due.is("remove: mark before", x.marked(0), 1);
        Due.is("remove: mark of the first removed", x.marked(1), 0);
        Due.is("remove: mark of the last removed", x.marked(2), 0);
        Due.is("remove: mark behind", x.marked(3), 3);
        Due.is("remove the last", x.remove(3, 3), 1);
        Due.is("remove the last: present", x.present(), 2);
        x.put(2, 9);
        Due.is("a new line bears no mark of a removed one", x.marked(1) + x.marked(2) + x.marked(3), 0);
        Due.is("remove all", x.remove(1, 3), 3);
        Due.is("remove all: present", x.present(), 0);
        text("remove all", x);
    }

    private static void removeRefused() {
        LineDesk x = desk(1, 2, 3);
        x.go(2);
        int[][] wrong = {{0, 1}, {-1, 2}, {2, 1}, {1, 4}, {4, 4}, {MIN, MAX}, {1, MAX}, {MIN, 1}, {0, 0}};
        for (int[] w : wrong) {
            String range = "(" + w[0] + ", " + w[1] + ")";
            Due.is("remove" + range, x.remove(w[0], w[1]), -1);
            Due.is("move" + range, x.move(w[0], w[1], 0), -1);
            Due.is("copy" + range, x.copy(w[0], w[1], 0), -1);
            Due.is("replace" + range, x.replace(w[0], w[1], 1, 9), -1);
        }
        text("range refused", x, 1, 2, 3);
        Due.is("range refused: present", x.present(), 2);
        Due.is("remove of an empty text", new LineDesk().remove(1, 1), -1);
        Due.is("remove(0, 0) of an empty text", new LineDesk().remove(0, 0), -1);
    }

    private static void move() {
        LineDesk x = desk(1, 2, 3, 4, 5, 6);
        x.mark(0, 2);
        x.mark(1, 6);
        Due.is("move forward", x.move(2, 3, 5), 5);
        text("move forward", x, 1, 4, 5, 2, 3, 6);
        Due.is("move forward: present", x.present(), 5);
        Due.is("move forward: mark", x.marked(0), 4);
        Due.is("move back", x.move(4, 6, 1), 4);
        text("move back", x, 1, 2, 3, 6, 4, 5);
        Due.is("move back: present", x.present(), 4);
        Due.is("move back: mark", x.marked(0), 2);
        Due.is("move back: other mark", x.marked(1), 4);
        Due.is("move to the front", x.move(5, 6, 0), 2);
        text("move to the front", x, 4, 5, 1, 2, 3, 6);
        Due.is("move to the end", x.move(1, 3, 6), 6);
        text("move to the end", x, 2, 3, 6, 4, 5, 1);
    }

    private static void moveKeepsOrder() {
        LineDesk x = desk(1, 2, 3, 4);
        Due.is("move(2, 3, 3)", x.move(2, 3, 3), 3);
        text("move(2, 3, 3)", x, 1, 2, 3, 4);
        Due.is("move(2, 3, 3): present", x.present(), 3);
        x.go(1);
        Due.is("move(2, 3, 1)", x.move(2, 3, 1), 3);
        text("move(2, 3, 1)", x, 1, 2, 3, 4);
        Due.is("move(2, 3, 1): present", x.present(), 3);
        Due.is("move(1, 4, 0)", x.move(1, 4, 0), 4);
        Due.is("move(1, 4, 4)", x.move(1, 4, 4), 4);
        Due.is("move(2, 2, 2)", x.move(2, 2, 2), 2);
        text("move(2, 2, 2)", x, 1, 2, 3, 4);
    }

    private static void moveRefused() {
        LineDesk x = desk(1, 2, 3, 4);
        x.go(1);
        Due.is("move into itself, at from", x.move(2, 4, 2), -1);
        Due.is("move into itself, before to", x.move(2, 4, 3), -1);
        Due.is("move behind 5 of 4", x.move(1, 2, 5), -1);
        Due.is("move behind -1", x.move(1, 2, -1), -1);
        Due.is("move behind MAX", x.move(1, 2, MAX), -1);
        Due.is("move behind MIN", x.move(1, 2, MIN), -1);
        text("move refused", x, 1, 2, 3, 4);
        Due.is("move refused: present", x.present(), 1);
    }

    private static void copy() {
        LineDesk x = desk(1, 2, 3);
        x.mark(0, 1);
        x.mark(1, 3);
        Due.is("copy to the front", x.copy(1, 2, 0), 2);
        text("copy to the front", x, 1, 2, 1, 2, 3);
        Due.is("copy: present", x.present(), 2);
        Due.is("copy: the mark stays with the old line", x.marked(0), 3);
        Due.is("copy: other mark", x.marked(1), 5);
        Due.is("copy to the end", x.copy(4, 5, 5), 7);
        text("copy to the end", x, 1, 2, 1, 2, 3, 2, 3);
        x.replace(7, 7, 3, 8);
        text("a copy is another line", x, 1, 2, 1, 2, 3, 2, 8);
        Due.is("copy behind 8 of 7", x.copy(1, 1, 8), -1);
        Due.is("copy behind -1", x.copy(1, 1, -1), -1);
        Due.is("copy behind MAX", x.copy(1, 1, MAX), -1);
        text("copy refused", x, 1, 2, 1, 2, 3, 2, 8);
        Due.is("copy refused: present", x.present(), 7);
    }

    private static void copyInsideItsRange() {
        LineDesk x = desk(1, 2, 3, 4);
        x.mark(0, 3);
        Due.is("copy(1, 4, 2)", x.copy(1, 4, 2), 6);
        text("copy(1, 4, 2)", x, 1, 2, 1, 2, 3, 4, 3, 4);
        Due.is("copy(1, 4, 2): present", x.present(), 6);
        Due.is("copy(1, 4, 2): mark", x.marked(0), 7);
        LineDesk y = desk(1, 2, 3);
        Due.is("copy(1, 3, 1)", y.copy(1, 3, 1), 4);
        text("copy(1, 3, 1)", y, 1, 1, 2, 3, 2, 3);
    }

    private static void copyLimits() {
        LineDesk x = filled(40);
        Due.is("copy to 61", x.copy(1, 21, 0), -1);
        Due.is("copy to 61: lines", x.lines(), 40);
        Due.is("copy to 60", x.copy(1, 20, 40), 60);
        Due.is("copy to 60: lines", x.lines(), 60);
        Due.is("copy to 60: first copy", x.line(41), 1);
        Due.is("copy to 60: last copy", x.line(60), 20);
        Due.is("copy of a full text", x.copy(1, 1, 0), -1);
    }

    private static void replace() {
        LineDesk x = desk(5, 6, 5, 5, 6, 5);
        x.mark(2, 3);
        Due.is("replace(2, 5, 5, 9)", x.replace(2, 5, 5, 9), 2);
        text("replace", x, 5, 6, 9, 9, 6, 5);
        Due.is("replace: present is the last of these", x.present(), 4);
        Due.is("replace: it is the same line", x.marked(2), 3);
        x.go(2);
        Due.is("replace: none", x.replace(1, 6, 7, 8), 0);
        Due.is("replace: none: present", x.present(), 2);
        Due.is("replace by the same", x.replace(1, 6, 6, 6), 2);
        Due.is("replace by the same: present", x.present(), 5);
        Due.is("replace one line", x.replace(1, 1, 5, MAX), 1);
        Due.is("replace the whole text", x.replace(1, 6, 9, -1), 2);
        text("replace at the end", x, MAX, 6, -1, -1, 6, 5);
    }

    private static void replaceRefused() {
        LineDesk x = desk(1, 1);
        x.go(1);
        Due.is("replace(0, 2)", x.replace(0, 2, 1, 2), -1);
        Due.is("replace(1, 3)", x.replace(1, 3, 1, 2), -1);
        Due.is("replace(2, 1)", x.replace(2, 1, 1, 2), -1);
        text("replace refused", x, 1, 1);
        Due.is("replace refused: present", x.present(), 1);
    }

    private static void allRemove() {
        LineDesk x = desk(1, 2, 1, 1, 3);
        x.mark(0, 3);
        x.mark(1, 5);
        x.go(1);
        Due.is("all(1, 0)", x.all(1, 0), 3);
        text("all(1, 0)", x, 2, 3);
        Due.is("all(1, 0): present is the last line", x.present(), 2);
        Due.is("all(1, 0): mark of a removed line", x.marked(0), 0);
        Due.is("all(1, 0): mark", x.marked(1), 2);
        x.go(1);
        x.all(3, 0);
        Due.is("all(3, 0): present", x.present(), 1);
        Due.is("all(2, 0)", x.all(2, 0), 1);
        Due.is("all(2, 0): present", x.present(), 0);
        text("all(2, 0)", x);
    }

    private static void allToFront() {
        LineDesk x = desk(1, 7, 2, 7, 7, 3);
        x.mark(0, 2);
        x.mark(1, 4);
        x.mark(2, 5);
        Due.is("all(7, 1)", x.all(7, 1), 3);
        text("all(7, 1)", x, 7, 7, 7, 1, 2, 3);
        Due.is("all(7, 1): the first is third now", x.marked(0), 3);
        Due.is("all(7, 1): the second", x.marked(1), 2);
        Due.is("all(7, 1): the last is first now", x.marked(2), 1);
        Due.is("all(7, 1): present", x.present(), 1);
    }

    private static void allToEnd() {
        LineDesk x = desk(7, 1, 7, 2, 7, 3);
        x.mark(0, 1);
        x.mark(1, 3);
        x.mark(2, 5);
        Due.is("all(7, 2)", x.all(7, 2), 3);
        text("all(7, 2)", x, 1, 2, 3, 7, 7, 7);
        Due.is("all(7, 2): the first", x.marked(0), 4);
        Due.is("all(7, 2): the second", x.marked(1), 5);
        Due.is("all(7, 2): the last", x.marked(2), 6);
        Due.is("all(7, 2): present", x.present(), 6);
    }

    private static void allDouble() {
        LineDesk x = desk(7, 1, 7, 7, 2);
        x.mark(0, 1);
        x.mark(1, 4);
        Due.is("all(7, 3)", x.all(7, 3), 3);
        text("all(7, 3)", x, 7, 7, 1, 7, 7, 7, 7, 2);
        Due.is("all(7, 3): present is the line, not its copy", x.present(), 6);
        Due.is("all(7, 3): the mark stays with the line", x.marked(0), 1);
        Due.is("all(7, 3): other mark", x.marked(1), 6);
    }

    private static void allDoubleUpToSixty() {
        LineDesk x = filled(58);
        x.replace(1, 1, 1, 0);
        x.replace(20, 20, 20, 0);
        x.replace(40, 40, 40, 0);
        Due.is("all(0, 3) of 58", x.all(0, 3), 3);
        Due.is("all(0, 3) of 58: lines", x.lines(), 60);
        Due.is("all(0, 3) of 58: first copy", x.line(2), 0);
        Due.is("all(0, 3) of 58: second line", x.line(21), 0);
        Due.is("all(0, 3) of 58: second copy", x.line(22), 0);
        Due.is("all(0, 3) of 58: third line", x.line(42), 0);
        Due.is("all(0, 3) of 58: no third copy", x.line(43), 41);
        Due.is("all(0, 3) of 58: present", x.present(), 42);
        Due.is("all(0, 3) of 60", x.all(0, 3), 5);
        Due.is("all(0, 3) of 60: lines", x.lines(), 60);
    }

    private static void allSwap() {
        LineDesk x = desk(7, 1, 2, 7, 3, 7);
        x.mark(0, 4);
        Due.is("all(7, 4)", x.all(7, 4), 3);
        text("all(7, 4)", x, 1, 7, 2, 3, 7, 7);
        Due.is("all(7, 4): mark", x.marked(0), 5);
        Due.is("all(7, 4): the last stays", x.present(), 6);

        LineDesk y = desk(7, 7, 1);
        y.mark(0, 1);
        y.mark(1, 2);
        Due.is("all(7, 4) of neighbours", y.all(7, 4), 2);
        text("all(7, 4) of neighbours", y, 7, 7, 1);
        Due.is("the first went behind the second and back", y.marked(0), 1);
        Due.is("the second went before the first and back", y.marked(1), 2);
        Due.is("all(7, 4) of neighbours: present", y.present(), 2);

        LineDesk z = desk(7, 7, 7, 1);
        for (int m = 0; m < 4; m++) {
            z.mark(m, m + 1);
        }
        Due.is("all(7, 4) of three", z.all(7, 4), 3);
        Due.is("all(7, 4) of three: first", z.marked(0), 1);
        Due.is("all(7, 4) of three: second", z.marked(1), 2);
        Due.is("all(7, 4) of three: third", z.marked(2), 4);
        Due.is("all(7, 4) of three: behind", z.marked(3), 3);
        Due.is("all(7, 4) of three: present", z.present(), 4);
    }

    private static void allOthers() {
        LineDesk x = desk(1, 2, 3);
        x.go(2);
        for (int kind = 0; kind < 5; kind++) {
            Due.is("all(9, " + kind + ") of none", x.all(9, kind), 0);
            Due.is("all(9, " + kind + "): present", x.present(), 2);
        }
        Due.is("all(1, -1)", x.all(1, -1), -1);
        Due.is("all(1, 5)", x.all(1, 5), -1);
        Due.is("all(1, MIN)", x.all(1, MIN), -1);
        Due.is("all(1, MAX)", x.all(1, MAX), -1);
        text("all refused", x, 1, 2, 3);
        Due.is("all refused: present", x.present(), 2);
        LineDesk empty = new LineDesk();
        for (int kind = 0; kind < 5; kind++) {
            Due.is("all(0, " + kind + ") of an empty text", empty.all(0, kind), 0);
        }
        Due.is("all of an empty text: present", empty.present(), 0);
    }

    private static void mark() {
        LineDesk x = desk(1, 2, 3);
        Due.is("mark(0, 2)", x.mark(0, 2), 0);
        Due.is("marked(0)", x.marked(0), 2);
        Due.is("marked(4)", x.marked(4), 2);
        Due.is("marked(-4)", x.marked(-4), 2);
        Due.is("mark(-1, 3)", x.mark(-1, 3), 0);
        Due.is("marked(3)", x.marked(3), 3);
        Due.is("marked(MAX)", x.marked(MAX), 3);
        Due.is("mark(6, 1)", x.mark(6, 1), 0);
        Due.is("marked(2)", x.marked(2), 1);
        Due.is("marked(1)", x.marked(1), 0);
        Due.is("mark once more", x.mark(0, 3), 0);
        Due.is("two marks for one line", x.marked(0), 3);
        Due.is("mark none", x.mark(0, 0), 0);
        Due.is("mark none: marked", x.marked(0), 0);
        Due.is("mark none: the other mark", x.marked(3), 3);
        Due.is("mark: present", x.present(), 3);
    }

    private static void markRefused() {
        LineDesk x = desk(1, 2, 3);
        x.mark(1, 2);
        Due.is("mark(1, 4) of 3", x.mark(1, 4), -1);
        Due.is("mark(1, -1)", x.mark(1, -1), -1);
        Due.is("mark(1, MAX)", x.mark(1, MAX), -1);
        Due.is("mark(1, MIN)", x.mark(1, MIN), -1);
        Due.is("mark refused: marked", x.marked(1), 2);
        Due.is("mark(0, 1) of an empty text", new LineDesk().mark(0, 1), -1);
        Due.is("mark(0, 0) of an empty text", new LineDesk().mark(0, 0), 0);
    }

    private static void marksFollowLines() {
        LineDesk x = desk(1, 2, 3, 4);
        x.mark(0, 1);
        x.mark(1, 3);
        x.put(0, 9);
        Due.is("mark behind a put", x.marked(0), 2);
        x.put(2, 9);
        Due.is("mark before a put", x.marked(0), 2);
        Due.is("mark behind two puts", x.marked(1), 5);
        x.move(1, 1, 6);
        Due.is("mark behind a line moved away", x.marked(0), 1);
        x.replace(1, 6, 3, 30);
        Due.is("mark of a changed value", x.marked(1), 4);
        Due.is("its value", x.line(x.marked(1)), 30);
    }

    private static void go() {
        LineDesk x = desk(4, 0, 6);
        Due.is("go(1)", x.go(1), 4);
        Due.is("go(1): present", x.present(), 1);
        Due.is("go(2) to a value of 0", x.go(2), 0);
        Due.is("go(2): present", x.present(), 2);
        Due.is("go(3)", x.go(3), 6);
        Due.is("go(0)", x.go(0), 0);
        Due.is("go(4) of 3", x.go(4), 0);
        Due.is("go(-1)", x.go(-1), 0);
        Due.is("go(MAX)", x.go(MAX), 0);
        Due.is("go(MIN)", x.go(MIN), 0);
        Due.is("go to no line: present", x.present(), 3);
        Due.is("go of an empty text", new LineDesk().go(0), 0);
    }

    private static void presentAndLines() {
        LineDesk x = new LineDesk();
        Due.is("present of an empty text", x.present(), 0);
        for (int n = 1; n <= 60; n++) {
            x.put(0, n);
            Due.is("lines after puts", x.lines(), n);
            Due.is("present after a put", x.present(), 1);
        }
        x.go(60);
        Due.is("present 60", x.present(), 60);
        x.move(1, 1, 60);
        Due.is("present is the moved line", x.present(), 60);
        x.go(30);
        x.mark(0, 5);
        x.find(60);
        Due.is("present after mark and find", x.present(), 30);
    }

    private static void line() {
        LineDesk x = desk(MIN, -1, MAX);
        text("line", x, MIN, -1, MAX);
        Due.is("line(0)", x.line(0), 0);
        Due.is("line(-1)", x.line(-1), 0);
        Due.is("line(4) of 3", x.line(4), 0);
        Due.is("line(MAX)", x.line(MAX), 0);
        Due.is("line(MIN)", x.line(MIN), 0);
        x.remove(3, 3);
        Due.is("line of a removed line", x.line(3), 0);
        Due.is("line(60)", filled(60).line(60), 60);
        Due.is("line(61)", filled(60).line(61), 0);
    }

    private static void find() {
        LineDesk x = desk(1, 2, 1, 2, 3);
        x.go(2);
        Due.is("find behind", x.find(1), 3);
        Due.is("find the same value behind", x.find(2), 4);
        x.go(4);
        Due.is("find going on from the first", x.find(1), 1);
        Due.is("find another one before itself", x.find(2), 2);
        Due.is("find the last", x.find(3), 5);
        x.go(5);
        Due.is("find itself last", x.find(3), 5);
        Due.is("find from the last", x.find(1), 1);
        Due.is("find none", x.find(9), 0);
        Due.is("find none with 0", x.find(0), 0);
        Due.is("find changes nothing", x.present(), 5);
        Due.is("find in one line", desk(8).find(8), 1);
        Due.is("find in an empty text", new LineDesk().find(0), 0);
        x.remove(1, 5);
        Due.is("find what was removed", x.find(1), 0);
    }

    private static void undo() {
        LineDesk x = new LineDesk();
        Due.is("undo without a change", x.undo(), 0);
        x.put(0, 1);
        x.put(1, 2);
        Due.is("undo", x.undo(), 1);
        text("undo", x, 1);
        Due.is("undo: present", x.present(), 1);
        Due.is("undo once more", x.undo(), 1);
        text("undo once more", x, 1, 2);
        Due.is("undo once more: present", x.present(), 2);
        Due.is("undo a third time", x.undo(), 1);
        text("undo a third time", x, 1);
        x.put(0, 3);
        text("a change after an undo", x, 3, 1);
        Due.is("undo of that", x.undo(), 1);
        text("undo of that", x, 1);
        Due.is("forth again", x.undo(), 1);
        text("forth again", x, 3, 1);
        x.remove(1, 2);
        x.undo();
        text("undo fills an empty text", x, 3, 1);
        Due.is("undo fills an empty text: present", x.present(), 1);
        x.undo();
        Due.is("and empties it again", x.present(), 0);
    }

    private static void undoTakesMarkAndGoBack() {
        LineDesk x = desk(1, 2);
        x.mark(0, 1);
        x.go(1);
        x.put(2, 3);
        x.mark(0, 3);
        x.mark(1, 2);
        x.go(2);
        Due.is("undo with mark and go", x.undo(), 1);
        Due.is("undo: mark of before", x.marked(0), 1);
        Due.is("undo: mark that came after", x.marked(1), 0);
        Due.is("undo: present of before", x.present(), 1);
        x.mark(2, 2);
        x.go(2);
        x.undo();
        Due.is("forth: mark", x.marked(0), 3);
        Due.is("forth: other mark", x.marked(1), 2);
        Due.is("forth: mark set between the undos", x.marked(2), 0);
        Due.is("forth: present", x.present(), 2);
        text("forth", x, 1, 2, 3);
        x.undo();
        Due.is("back: mark set between the undos", x.marked(2), 2);
        Due.is("back: mark", x.marked(0), 1);
        Due.is("back: present", x.present(), 2);

        LineDesk y = new LineDesk();
        y.mark(0, 0);
        y.go(0);
        Due.is("mark and go are no changes", y.undo(), 0);
    }

    private static void undoOfChangesThatAlterNothing() {
        LineDesk empty = new LineDesk();
        empty.all(1, 0);
        Due.is("all of none is a change", empty.undo(), 1);

        LineDesk x = desk(1, 2);
        x.replace(1, 2, 9, 8);
        x.undo();
        text("undo of a replace of none", x, 1, 2);

        LineDesk y = desk(1, 2);
        y.move(2, 2, 1);
        y.undo();
        text("undo of a move that leaves the order", y, 1, 2);

        LineDesk z = desk(1, 2);
        z.go(1);
        z.all(9, 3);
        z.go(2);
        z.undo();
        text("undo of an all of none", z, 1, 2);
        Due.is("undo of an all of none: present", z.present(), 1);
    }

    private static void undoAfterRefusal() {
        LineDesk x = new LineDesk();
        x.put(1, 1);
        x.all(1, 5);
        x.remove(1, 1);
        x.move(1, 1, 0);
        x.copy(1, 1, 0);
        x.replace(1, 1, 0, 0);
        Due.is("refused calls are no changes", x.undo(), 0);
        x.put(0, 1);
        x.put(1, 2);
        x.put(5, 1);
        x.all(1, -1);
        x.remove(2, 1);
        x.move(1, 2, 1);
        x.copy(1, 1, 9);
        x.replace(0, 1, 0, 0);
        Due.is("undo after refused calls", x.undo(), 1);
        text("undo after refused calls", x, 1);

        LineDesk full = filled(60);
        full.put(0, 1);
        full.copy(1, 1, 0);
        full.undo();
        Due.is("undo after calls refused for room", full.lines(), 59);
    }

    private static void undoOfEveryChange() {
        for (int change = 0; change < 10; change++) {
            LineDesk x = desk(1, 2, 1, 3);
            for (int m = 0; m < 4; m++) {
                x.mark(m, m + 1);
            }
            x.go(2);
            makeChange(x, change);
            int[] after = snapshot(x);
            Due.is("undo of change " + change, x.undo(), 1);
            text("undo of change " + change, x, 1, 2, 1, 3);
            Due.is("undo of change " + change + ": present", x.present(), 2);
            for (int m = 0; m < 4; m++) {
                Due.is("undo of change " + change + ": mark", x.marked(m), m + 1);
            }
            x.undo();
            Due.holds("change " + change + " forth again", java.util.Arrays.equals(after, snapshot(x)));
        }
    }

    private static void makeChange(LineDesk x, int change) {
        switch (change) {
            case 0: x.put(1, 9); break;
            case 1: x.remove(2, 3); break;
            case 2: x.move(1, 2, 4); break;
            case 3: x.copy(1, 3, 2); break;
            case 4: x.replace(1, 4, 1, 8); break;
            default: x.all(1, change - 5); break;
        }
    }

    private static int[] snapshot(LineDesk x) {
        int[] all = new int[66];
        for (int i = 0; i < 60; i++) {
            all[i] = x.line(i + 1);
        }
        for (int m = 0; m < 4; m++) {
            all[60 + m] = x.marked(m);
        }
        all[64] = x.present();
        all[65] = x.lines();
        return all;
    }
}
