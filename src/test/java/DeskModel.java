import java.util.ArrayList;
import java.util.IdentityHashMap;
import java.util.List;
import java.util.Map;

/** The document once more, with objects for lines: what LineDesk is compared with. */
final class DeskModel {
    private static final class Line {
        int value;

        Line(int value) {
            this.value = value;
        }
    }

    private static final class State {
        final List<Line> text = new ArrayList<>();
        final Line[] marks = new Line[4];
        Line present;

        State twin() {
            State twin = new State();
            Map<Line, Line> twins = new IdentityHashMap<>();
            for (Line line : text) {
                Line other = new Line(line.value);
                twins.put(line, other);
                twin.text.add(other);
            }
            for (int m = 0; m < 4; m++) {
                twin.marks[m] = twins.get(marks[m]);
            }
            twin.present = twins.get(present);
            return twin;
        }
    }

    private State now = new State();
    private State other = null;

    private void change() {
        other = now.twin();
    }

    private boolean range(int from, int to) {
        return 1 <= from && from <= to && to <= now.text.size();
    }

    private boolean place(int n) {
        return 0 <= n && n <= now.text.size();
    }

    private int number(Line line) {
        return now.text.indexOf(line) + 1;
    }

    private Line last() {
        return now.text.isEmpty() ? null : now.text.get(now.text.size() - 1);
    }

    private void forget(Line line) {
        for (int m = 0; m < 4; m++) {
            if (now.marks[m] == line) {
                now.marks[m] = null;
            }
        }
    }

    int put(int at, int value) {
        if (!place(at) || now.text.size() == 60) {
            return -1;
        }
        change();
        now.present = new Line(value);
        now.text.add(at, now.present);
        return at + 1;
    }

    int remove(int from, int to) {
        if (!range(from, to)) {
            return -1;
        }
        change();
        Line behind = to < now.text.size() ? now.text.get(to) : null;
        List<Line> gone = now.text.subList(from - 1, to);
        int size = gone.size();
        gone.forEach(this::forget);
        gone.clear();
        now.present = behind != null ? behind : last();
        return size;
    }

    int move(int from, int to, int dest) {
        if (!range(from, to) || !place(dest) || from <= dest && dest < to) {
            return -1;
        }
        change();
        List<Line> block = new ArrayList<>(now.text.subList(from - 1, to));
        List<Line> head = new ArrayList<>(now.text.subList(0, dest));
        List<Line> tail = new ArrayList<>(now.text.subList(dest, now.text.size()));
        head.removeAll(block);
        tail.removeAll(block);
        now.text.clear();
        now.text.addAll(head);
        now.text.addAll(block);
        now.text.addAll(tail);
        now.present = block.get(block.size() - 1);
        return number(now.present);
    }

    int copy(int from, int to, int dest) {
        if (!range(from, to) || !place(dest) || now.text.size() + (to - from + 1) > 60) {
            return -1;
        }
        change();
        List<Line> copies = new ArrayList<>();
        for (Line line : now.text.subList(from - 1, to)) {
            copies.add(new Line(line.value));
        }
        now.text.addAll(dest, copies);
        now.present = copies.get(copies.size() - 1);
        return number(now.present);
    }

    int replace(int from, int to, int old, int value) {
        if (!range(from, to)) {
            return -1;
        }
        change();
        int found = 0;
        for (Line line : now.text.subList(from - 1, to)) {
            if (line.value == old) {
                line.value = value;
                now.present = line;
                found++;
            }
        }
        return found;
    }

    int all(int value, int kind) {
        if (kind < 0 || kind > 4) {
            return -1;
        }
        change();
        List<Line> these = new ArrayList<>();
        for (Line line : now.text) {
            if (line.value == value) {
                these.add(line);
            }
        }
        for (Line line : these) {
            treat(line, kind);
        }
        Line still = null;
        for (Line line : these) {
            still = now.text.contains(line) ? line : still;
        }
        if (!these.isEmpty()) {
            now.present = still != null ? still : last();
        }
        return these.size();
    }

    private void treat(Line line, int kind) {
        int index = now.text.indexOf(line);
        if (kind == 0) {
            now.text.remove(line);
            forget(line);
        } else if (kind == 1) {
            now.text.remove(line);
            now.text.add(0, line);
        } else if (kind == 2) {
            now.text.remove(line);
            now.text.add(line);
        } else if (kind == 3 && now.text.size() < 60) {
            now.text.add(index + 1, new Line(line.value));
        } else if (kind == 4 && index + 1 < now.text.size()) {
            now.text.set(index, now.text.get(index + 1));
            now.text.set(index + 1, line);
        }
    }

    int mark(int letter, int n) {
        if (!place(n)) {
            return -1;
        }
        now.marks[letter & 3] = n == 0 ? null : now.text.get(n - 1);
        return 0;
    }

    int marked(int letter) {
        Line line = now.marks[letter & 3];
        return line == null ? 0 : number(line);
    }

    int go(int n) {
        if (!range(n, n)) {
            return 0;
        }
        now.present = now.text.get(n - 1);
        return now.present.value;
    }

    int present() {
        return now.present == null ? 0 : number(now.present);
    }

    int line(int n) {
        return range(n, n) ? now.text.get(n - 1).value : 0;
    }

    int lines() {
        return now.text.size();
    }

    int find(int value) {
        int start = present();
        for (int n = start + 1; n <= lines(); n++) {
            if (line(n) == value) {
                return n;
            }
        }
        for (int n = 1; n <= start; n++) {
            if (line(n) == value) {
                return n;
            }
        }
        return 0;
    }

    int undo() {
        if (other == null) {
            return 0;
        }
        State before = now;
        now = other;
        other = before;
        return 1;
    }
}
