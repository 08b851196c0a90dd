public final class LineDesk {
    private static final int MOST_LINES = 60;
    private static final int MARKS = 4;
    private static final int MARK_MASK = 3;
    private static final int NONE = -1;
    private static final int REFUSED = -1;

    private static final int KIND_REMOVE = 0;
    private static final int KIND_TO_FRONT = 1;
    private static final int KIND_TO_END = 2;
    private static final int KIND_DOUBLE = 3;
    private static final int KIND_SWAP = 4;

    // A line keeps one slot while it is in the text, so marks and the present line follow it
    // when it moves. order holds every slot exactly once: the first count of them are the text,
    // the rest are free for new lines.
    private final int[] order = new int[MOST_LINES];
    private final int[] values = new int[MOST_LINES];
    private final int[] marks = new int[MARKS];
    private int count;
    private int presentSlot;

    // The other side of the step back: undo swaps it with the state above.
    private final int[] keptOrder = new int[MOST_LINES];
    private final int[] keptValues = new int[MOST_LINES];
    private final int[] keptMarks = new int[MARKS];
    private int keptCount;
    private int keptPresentSlot;
    private boolean changed;

    private final int[] chosen = new int[MOST_LINES];

    public LineDesk() {
        for (int i = 0; i < MOST_LINES; i++) {
            order[i] = i;
        }
        for (int m = 0; m < MARKS; m++) {
            marks[m] = NONE;
        }
        count = 0;
        presentSlot = NONE;
        changed = false;
    }

    public int put(int at, int value) {
        if (!isPlace(at) || count >= MOST_LINES) {
            return REFUSED;
        }
        keepState();
        appendLine(value);
        shiftLine(count - 1, at);
        presentSlot = order[at];
        return at + 1;
    }

    public int remove(int from, int to) {
        if (!isRange(from, to)) {
            return REFUSED;
        }
        keepState();
        int size = to - from + 1;
        for (int k = 0; k < size; k++) {
            dropLine(from - 1);
        }
        presentSlot = from <= count ? order[from - 1] : lastSlot();
        return size;
    }

    public int move(int from, int to, int dest) {
        if (!isRange(from, to) || !isPlace(dest)) {
            return REFUSED;
        }
        if (from <= dest && dest < to) {
            return REFUSED;
        }
        keepState();
        int last = moveBlock(from, to, dest);
        presentSlot = order[last - 1];
        return last;
    }

    public int copy(int from, int to, int dest) {
        if (!isRange(from, to) || !isPlace(dest)) {
            return REFUSED;
        }
        int size = to - from + 1;
        if (count + size > MOST_LINES) {
            return REFUSED;
        }
        keepState();
        // The copies are made behind the text first: dest may lie inside the range, and putting
        // them there one by one would shift the lines still to be copied.
        int before = count;
        for (int k = 0; k < size; k++) {
            appendLine(values[order[from - 1 + k]]);
        }
        int last = moveBlock(before + 1, before + size, dest);
        presentSlot = order[last - 1];
        return last;
    }

    public int replace(int from, int to, int old, int value) {
        if (!isRange(from, to)) {
            return REFUSED;
        }
        keepState();
        int found = 0;
        for (int i = from - 1; i < to; i++) {
            int slot = order[i];
            if (values[slot] == old) {
                values[slot] = value;
                presentSlot = slot;
                found++;
            }
        }
        return found;
    }

    public int all(int value, int kind) {
        if (kind < KIND_REMOVE || kind > KIND_SWAP) {
            return REFUSED;
        }
        keepState();
        int found = chooseLines(value);
        for (int k = 0; k < found; k++) {
            treatLine(chosen[k], kind);
        }
        if (found > 0) {
            // Only removal takes chosen lines out of the text, and it takes them all.
            presentSlot = kind == KIND_REMOVE ? lastSlot() : chosen[found - 1];
        }
        return found;
    }

    public int mark(int letter, int n) {
        if (!isPlace(n)) {
            return REFUSED;
        }
        marks[letter & MARK_MASK] = n == 0 ? NONE : order[n - 1];
        return 0;
    }

    public int marked(int letter) {
        return numberOf(marks[letter & MARK_MASK]);
    }

    public int go(int n) {
        if (!isLine(n)) {
            return 0;
        }
        presentSlot = order[n - 1];
        return values[presentSlot];
    }

    public int present() {
        return numberOf(presentSlot);
    }

    public int line(int n) {
        return isLine(n) ? values[order[n - 1]] : 0;
    }

    public int lines() {
        return count;
    }

    public int find(int value) {
        int start = numberOf(presentSlot);
        for (int k = 0; k < count; k++) {
            int i = (start + k) % count;
            if (values[order[i]] == value) {
                return i + 1;
            }
        }
        return 0;
    }

    public int undo() {
        if (!changed) {
            return 0;
        }
        swapLines();
        swapMarks();
        int otherCount = keptCount;
        keptCount = count;
        count = otherCount;
        int otherPresent = keptPresentSlot;
        keptPresentSlot = presentSlot;
        presentSlot = otherPresent;
        return 1;
    }

    private boolean isLine(int n) {
        return n >= 1 && n <= count;
    }

    private boolean isPlace(int n) {
        return n >= 0 && n <= count;
    }

    private boolean isRange(int from, int to) {
        return from >= 1 && from <= to && to <= count;
    }

    private int numberOf(int slot) {
        for (int i = 0; i < count; i++) {
            if (order[i] == slot) {
                return i + 1;
            }
        }
        return 0;
    }

    private int lastSlot() {
        return count > 0 ? order[count - 1] : NONE;
    }

    private void appendLine(int value) {
        values[order[count]] = value;
        count++;
    }

    private void dropLine(int index) {
        int slot = order[index];
        for (int m = 0; m < MARKS; m++) {
            if (marks[m] == slot) {
                marks[m] = NONE;
            }
        }
        shiftLine(index, count - 1);
        count--;
    }

    private void shiftLine(int index, int target) {
        int slot = order[index];
        for (int i = index; i < target; i++) {
            order[i] = order[i + 1];
        }
        for (int i = index; i > target; i--) {
            order[i] = order[i - 1];
        }
        order[target] = slot;
    }

    private int moveBlock(int from, int to, int dest) {
        int size = to - from + 1;
        if (dest >= to) {
            for (int k = 0; k < size; k++) {
                shiftLine(from - 1, dest - 1);
            }
            return dest;
        }
        for (int k = 0; k < size; k++) {
            shiftLine(from - 1 + k, dest + k);
        }
        return dest + size;
    }

    // Lines are chosen before any is treated, so that a copy made on the way is not treated too.
    private int chooseLines(int value) {
        int found = 0;
        for (int i = 0; i < count; i++) {
            if (values[order[i]] == value) {
                chosen[found] = order[i];
                found++;
            }
        }
        return found;
    }

    private void treatLine(int slot, int kind) {
        int index = numberOf(slot) - 1;
        if (index < 0) {
            return;
        }
        switch (kind) {
            case KIND_REMOVE:
                dropLine(index);
                break;
            case KIND_TO_FRONT:
                shiftLine(index, 0);
                break;
            case KIND_TO_END:
                shiftLine(index, count - 1);
                break;
            case KIND_DOUBLE:
                doubleLine(index);
                break;
            default:
                swapWithNext(index);
                break;
        }
    }

    private void doubleLine(int index) {
        if (count < MOST_LINES) {
            appendLine(values[order[index]]);
            shiftLine(count - 1, index + 1);
        }
    }

    private void swapWithNext(int index) {
        if (index + 1 < count) {
            shiftLine(index, index + 1);
        }
    }

    private void keepState() {
        for (int i = 0; i < MOST_LINES; i++) {
            keptOrder[i] = order[i];
            keptValues[i] = values[i];
        }
        for (int m = 0; m < MARKS; m++) {
            keptMarks[m] = marks[m];
        }
        keptCount = count;
        keptPresentSlot = presentSlot;
        changed = true;
    }

    private void swapLines() {
        for (int i = 0; i < MOST_LINES; i++) {
            int otherSlot = keptOrder[i];
            keptOrder[i] = order[i];
            order[i] = otherSlot;
            int otherValue = keptValues[i];
            keptValues[i] = values[i];
            values[i] = otherValue;
        }
    }

    private void swapMarks() {
        for (int m = 0; m < MARKS; m++) {
            int otherMark = keptMarks[m];
            keptMarks[m] = marks[m];
            marks[m] = otherMark;
        }
    }
}
