import java.util.Arrays;

/** Desks made ready for the tests, and what can be seen of one from outside. */
final class Desks {
    private Desks() {
    }

    /** Lines with these values; the last one is the present line. */
    static LineDesk of(int... values) {
        LineDesk x = new LineDesk();
        for (int i = 0; i < values.length; i++) {
            x.put(i, values[i]);
        }
        return x;
    }

    /** Lines with the values 1, 2, 3 and so on. */
    static LineDesk filled(int count) {
        LineDesk x = new LineDesk();
        for (int i = 0; i < count; i++) {
            x.put(i, i + 1);
        }
        return x;
    }

    /** So many lines, where each part of the state (text, marks, present line) differs from what undo brings. */
    static LineDesk busy(int count) {
        LineDesk x = filled(count - 1);
        x.mark(0, 1);
        x.mark(3, count - 1);
        x.go(count - 1);
        x.put(count / 2, 1000);
        x.mark(0, count);
        x.mark(1, count / 2 + 1);
        x.mark(2, 1);
        x.go(1);
        return x;
    }

    /** No line, but a text that undo brings back. */
    static LineDesk emptied() {
        LineDesk x = of(1, 2, 3);
        x.mark(1, 2);
        x.remove(1, 3);
        return x;
    }

    /** Text, values, marks and present line. */
    static int[] look(LineDesk x) {
        int count = x.lines();
        int[] seen = new int[count + 7];
        seen[0] = count;
        seen[1] = x.present();
        for (int m = 0; m < 4; m++) {
            seen[2 + m] = x.marked(m);
        }
        for (int n = 1; n <= count + 1; n++) {
            seen[5 + n] = x.line(n);
        }
        return seen;
    }

    static void same(String what, int[] got, int[] want) {
        Due.holds(what + ": seen " + Arrays.toString(got) + ", due is " + Arrays.toString(want)
                + " (lines, present, four marks, values)", Arrays.equals(got, want));
    }

    static void text(String what, LineDesk x, int... want) {
        Due.is(what + ": lines()", x.lines(), want.length);
        for (int i = 0; i < want.length; i++) {
            Due.is(what + ": line(" + (i + 1) + ")", x.line(i + 1), want[i]);
        }
        Due.is(what + ": line behind the last", x.line(want.length + 1), 0);
    }

    static void marks(String what, LineDesk x, int... want) {
        for (int m = 0; m < want.length; m++) {
            Due.is(what + ": marked(" + m + ")", x.marked(m), want[m]);
        }
    }
}
