/** Each promise of the document on ordinary inputs; the bounds that its words name are in the BoundsTests. */
public final class PromiseTest {
    private static final int MIN = Integer.MIN_VALUE;
    private static final int MAX = Integer.MAX_VALUE;

    public static void main(String[] args) {
        put();
        remove();
        move();
        copy();
        replace();
        allRemove();
        allToFront();
        allToEnd();
        allDouble();
        allSwap();
        mark();
        marksFollowLines();
        go();
        presentAndLines();
        line();
        find();
        undo();
        undoTakesMarkAndGoBack();
        Due.end("PromiseTest");
    }

    private static void put() {
        LineDesk x = new LineDesk();
        Due.is("put first", x.put(0, 5), 1);
        Due.is("put: present", x.present(), 1);
        Due.is("put before the first", x.put(0, -6), 1);
        Due.is("put behind the last", x.put(2, 7), 3);
        Due.is("put between", x.put(1, MIN), 2);
        Due.is("put between: present", x.present(), 2);
        Desks.text("put", x, -6, MIN, 5, 7);
    }

    private static void remove() {
        LineDesk x = Desks.of(1, 2, 3, 4, 5);
        x.mark(0, 1);
        x.mark(1, 2);
        x.mark(2, 3);
        x.mark(3, 5);
        x.go(1);
        Due.is("remove(2, 3)", x.remove(2, 3), 2);
        Desks.text("remove", x, 1, 4, 5);
        Due.is("remove: present is the one behind", x.present(), 2);
        Due.is("remove: mark before", x.marked(0), 1);
        Due.is("remove: mark of the first removed", x.marked(1), 0);
        Due.is("remove: mark of the last removed", x.marked(2), 0);
        Due.is("remove: mark behind", x.marked(3), 3);
        Due.is("remove the last", x.remove(3, 3), 1);
        Due.is("remove the last: present", x.present(), 2);
        x.put(2, 9);
        Due.is("a new line bears no mark of a removed one", x.marked(1) + x.marked(2) + x.marked(3), 0);
        Due.is("remove all", x.remove(1, 3), 3);
        Due.is("remove all: present", x.present(), 0);
        Desks.text("remove all", x);
    }

    private static void move() {
        LineDesk x = Desks.of(1, 2, 3, 4, 5, 6);
        x.mark(0, 2);
        x.mark(1, 6);
        Due.is("move forward", x.move(2, 3, 5), 5);
        Desks.text("move forward", x, 1, 4, 5, 2, 3, 6);
        Due.is("move forward: present", x.present(), 5);
        Due.is("move forward: mark", x.marked(0), 4);
        Due.is("move back", x.move(4, 6, 1), 4);
        Desks.text("move back", x, 1, 2, 3, 6, 4, 5);
        Due.is("move back: present", x.present(), 4);
        Due.is("move back: mark", x.marked(0), 2);
        Due.is("move back: other mark", x.marked(1), 4);
        Due.is("move to the front", x.move(5, 6, 0), 2);
        Desks.text("move to the front", x, 4, 5, 1, 2, 3, 6);
        Due.is("move to the end", x.move(1, 3, 6), 6);
        Desks.text("move to the end", x, 2, 3, 6, 4, 5, 1);
    }

    private static void copy() {
        LineDesk x = Desks.of(1, 2, 3);
        x.mark(0, 1);
        x.mark(1, 3);
        Due.is("copy to the front", x.copy(1, 2, 0), 2);
        Desks.text("copy to the front", x, 1, 2, 1, 2, 3);
        Due.is("copy: present", x.present(), 2);
        Due.is("copy: the mark stays with the old line", x.marked(0), 3);
        Due.is("copy: other mark", x.marked(1), 5);
        Due.is("copy to the end", x.copy(4, 5, 5), 7);
        Desks.text("copy to the end", x, 1, 2, 1, 2, 3, 2, 3);
        x.replace(7, 7, 3, 8);
        Desks.text("a copy is another line", x, 1, 2, 1, 2, 3, 2, 8);
    }

    private static void replace() {
        LineDesk x = Desks.of(5, 6, 5, 5, 6, 5);
        x.mark(2, 3);
        Due.is("replace(2, 5, 5, 9)", x.replace(2, 5, 5, 9), 2);
        Desks.text("replace", x, 5, 6, 9, 9, 6, 5);
        Due.is("replace: present is the last of these", x.present(), 4);
        Due.is("replace: it is the same line", x.marked(2), 3);
        x.go(2);
        Due.is("replace: none", x.replace(1, 6, 7, 8), 0);
        Due.is("replace: none: present", x.present(), 2);
        Due.is("replace by the same", x.replace(1, 6, 6, 6), 2);
        Due.is("replace by the same: present", x.present(), 5);
        Due.is("replace one line", x.replace(1, 1, 5, MAX), 1);
        Due.is("replace the whole text", x.replace(1, 6, 9, -1), 2);
        Desks.text("replace at the end", x, MAX, 6, -1, -1, 6, 5);
    }

    private static void allRemove() {
        LineDesk x = Desks.of(1, 2, 1, 1, 3);
        x.mark(0, 3);
        x.mark(1, 5);
        x.go(1);
        Due.is("all(1, 0)", x.all(1, 0), 3);
        Desks.text("all(1, 0)", x, 2, 3);
        Due.is("all(1, 0): present is the last line", x.present(), 2);
        Due.is("all(1, 0): mark of a removed line", x.marked(0), 0);
        Due.is("all(1, 0): mark", x.marked(1), 2);
        x.go(1);
        x.all(3, 0);
        Due.is("all(3, 0): present", x.present(), 1);
        Due.is("all(2, 0)", x.all(2, 0), 1);
        Due.is("all(2, 0): present", x.present(), 0);
        Desks.text("all(2, 0)", x);
    }

    private static void allToFront() {
        LineDesk x = Desks.of(1, 7, 2, 7, 7, 3);
        x.mark(0, 2);
        x.mark(1, 4);
        x.mark(2, 5);
        Due.is("all(7, 1)", x.all(7, 1), 3);
        Desks.text("all(7, 1)", x, 7, 7, 7, 1, 2, 3);
        Due.is("all(7, 1): the first is third now", x.marked(0), 3);
        Due.is("all(7, 1): the second", x.marked(1), 2);
        Due.is("all(7, 1): the last is first now", x.marked(2), 1);
        Due.is("all(7, 1): present", x.present(), 1);
    }

    private static void allToEnd() {
        LineDesk x = Desks.of(7, 1, 7, 2, 7, 3);
        x.mark(0, 1);
        x.mark(1, 3);
        x.mark(2, 5);
        Due.is("all(7, 2)", x.all(7, 2), 3);
        Desks.text("all(7, 2)", x, 1, 2, 3, 7, 7, 7);
        Due.is("all(7, 2): the first", x.marked(0), 4);
        Due.is("all(7, 2): the second", x.marked(1), 5);
        Due.is("all(7, 2): the last", x.marked(2), 6);
        Due.is("all(7, 2): present", x.present(), 6);
    }

    private static void allDouble() {
        LineDesk x = Desks.of(7, 1, 7, 7, 2);
        x.mark(0, 1);
        x.mark(1, 4);
        Due.is("all(7, 3)", x.all(7, 3), 3);
        Desks.text("all(7, 3)", x, 7, 7, 1, 7, 7, 7, 7, 2);
        Due.is("all(7, 3): present is the line, not its copy", x.present(), 6);
        Due.is("all(7, 3): the mark stays with the line", x.marked(0), 1);
        Due.is("all(7, 3): other mark", x.marked(1), 6);
    }

    private static void allSwap() {
        LineDesk x = Desks.of(7, 1, 2, 7, 3, 7);
        x.mark(0, 4);
        Due.is("all(7, 4)", x.all(7, 4), 3);
        Desks.text("all(7, 4)", x, 1, 7, 2, 3, 7, 7);
        Due.is("all(7, 4): mark", x.marked(0), 5);
        Due.is("all(7, 4): the last stays", x.present(), 6);

        LineDesk y = Desks.of(7, 7, 1);
        y.mark(0, 1);
        y.mark(1, 2);
        Due.is("all(7, 4) of neighbours", y.all(7, 4), 2);
        Desks.text("all(7, 4) of neighbours", y, 7, 7, 1);
        Due.is("the first went behind the second and back", y.marked(0), 1);
        Due.is("the second went before the first and back", y.marked(1), 2);
        Due.is("all(7, 4) of neighbours: present", y.present(), 2);

        LineDesk z = Desks.of(7, 7, 7, 1);
        for (int m = 0; m < 4; m++) {
            z.mark(m, m + 1);
        }
        Due.is("all(7, 4) of three", z.all(7, 4), 3);
        Due.is("all(7, 4) of three: first", z.marked(0), 1);
        Due.is("all(7, 4) of three: second", z.marked(1), 2);
        Due.is("all(7, 4) of three: third", z.marked(2), 4);
        Due.is("all(7, 4) of three: behind", z.marked(3), 3);
        Due.is("all(7, 4) of three: present", z.present(), 4);
    }

    private static void mark() {
        LineDesk x = Desks.of(1, 2, 3);
        Due.is("mark(0, 2)", x.mark(0, 2), 0);
        Due.is("marked(0)", x.marked(0), 2);
        Due.is("marked(4)", x.marked(4), 2);
        Due.is("marked(-4)", x.marked(-4), 2);
        Due.is("mark(-1, 3)", x.mark(-1, 3), 0);
        Due.is("marked(3)", x.marked(3), 3);
        Due.is("marked(MAX)", x.marked(MAX), 3);
        Due.is("mark(6, 1)", x.mark(6, 1), 0);
        Due.is("marked(2)", x.marked(2), 1);
        Due.is("marked(1)", x.marked(1), 0);
        Due.is("mark once more", x.mark(0, 3), 0);
        Due.is("two marks for one line", x.marked(0), 3);
        Due.is("mark none", x.mark(0, 0), 0);
        Due.is("mark none: marked", x.marked(0), 0);
        Due.is("mark none: the other mark", x.marked(3), 3);
        Due.is("mark: present", x.present(), 3);
    }

    private static void marksFollowLines() {
        LineDesk x = Desks.of(1, 2, 3, 4);
        x.mark(0, 1);
        x.mark(1, 3);
        x.put(0, 9);
        Due.is("mark behind a put", x.marked(0), 2);
        x.put(2, 9);
        Due.is("mark before a put", x.marked(0), 2);
        Due.is("mark behind two puts", x.marked(1), 5);
        x.move(1, 1, 6);
        Due.is("mark behind a line moved away", x.marked(0), 1);
        x.replace(1, 6, 3, 30);
        Due.is("mark of a changed value", x.marked(1), 4);
        Due.is("its value", x.line(x.marked(1)), 30);
    }

    private static void go() {
        LineDesk x = Desks.of(4, 0, 6);
        Due.is("go(1)", x.go(1), 4);
        Due.is("go(1): present", x.present(), 1);
        Due.is("go(2) to a value of 0", x.go(2), 0);
        Due.is("go(2): present", x.present(), 2);
        Due.is("go(3)", x.go(3), 6);
    }

    private static void presentAndLines() {
        LineDesk x = new LineDesk();
        Due.is("present of an empty text", x.present(), 0);
        for (int n = 1; n <= 60; n++) {
            x.put(0, n);
            Due.is("lines after puts", x.lines(), n);
            Due.is("present after a put", x.present(), 1);
        }
        x.go(60);
        Due.is("present 60", x.present(), 60);
        x.move(1, 1, 60);
        Due.is("present is the moved line", x.present(), 60);
        x.go(30);
        x.mark(0, 5);
        x.find(60);
        Due.is("present after mark and find", x.present(), 30);
    }

    private static void line() {
        LineDesk x = Desks.of(MIN, -1, MAX);
        Desks.text("line", x, MIN, -1, MAX);
        x.remove(3, 3);
        Due.is("line of a removed line", x.line(3), 0);
    }

    private static void find() {
        LineDesk x = Desks.of(1, 2, 1, 2, 3);
        x.go(2);
        Due.is("find behind", x.find(1), 3);
        Due.is("find the same value behind", x.find(2), 4);
        x.go(4);
        Due.is("find going on from the first", x.find(1), 1);
        Due.is("find another one before itself", x.find(2), 2);
        Due.is("find the last", x.find(3), 5);
        x.go(5);
        Due.is("find itself last", x.find(3), 5);
        Due.is("find from the last", x.find(1), 1);
        Due.is("find none", x.find(9), 0);
        Due.is("find none with 0", x.find(0), 0);
        Due.is("find changes nothing", x.present(), 5);
        Due.is("find in one line", Desks.of(8).find(8), 1);
        x.remove(1, 5);
        Due.is("find what was removed", x.find(1), 0);
    }

    private static void undo() {
        LineDesk x = new LineDesk();
        Due.is("undo without a change", x.undo(), 0);
        x.put(0, 1);
        x.put(1, 2);
        Due.is("undo", x.undo(), 1);
        Desks.text("undo", x, 1);
        Due.is("undo: present", x.present(), 1);
        Due.is("undo once more", x.undo(), 1);
        Desks.text("undo once more", x, 1, 2);
        Due.is("undo once more: present", x.present(), 2);
        Due.is("undo a third time", x.undo(), 1);
        Desks.text("undo a third time", x, 1);
        x.put(0, 3);
        Desks.text("a change after an undo", x, 3, 1);
        Due.is("undo of that", x.undo(), 1);
        Desks.text("undo of that", x, 1);
        Due.is("forth again", x.undo(), 1);
        Desks.text("forth again", x, 3, 1);
        x.remove(1, 2);
        x.undo();
        Desks.text("undo fills an empty text", x, 3, 1);
        Due.is("undo fills an empty text: present", x.present(), 1);
        x.undo();
        Due.is("and empties it again", x.present(), 0);
    }

    private static void undoTakesMarkAndGoBack() {
        LineDesk x = Desks.of(1, 2);
        x.mark(0, 1);
        x.go(1);
        x.put(2, 3);
        x.mark(0, 3);
        x.mark(1, 2);
        x.go(2);
        Due.is("undo with mark and go", x.undo(), 1);
        Due.is("undo: mark of before", x.marked(0), 1);
        Due.is("undo: mark that came after", x.marked(1), 0);
        Due.is("undo: present of before", x.present(), 1);
        x.mark(2, 2);
        x.go(2);
        x.undo();
        Due.is("forth: mark", x.marked(0), 3);
        Due.is("forth: other mark", x.marked(1), 2);
        Due.is("forth: mark set between the undos", x.marked(2), 0);
        Due.is("forth: present", x.present(), 2);
        Desks.text("forth", x, 1, 2, 3);
        x.undo();
        Due.is("back: mark set between the undos", x.marked(2), 2);
        Due.is("back: mark", x.marked(0), 1);
        Due.is("back: present", x.present(), 2);
    }
}
