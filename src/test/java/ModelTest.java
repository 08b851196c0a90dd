/** Long mixed runs, the same ones every time, on LineDesk and on DeskModel side by side. */
public final class ModelTest {
    private static final int RUNS = 4000;
    // With the look at the whole state at the end, a run stays within the document's 512 calls.
    private static final int CALLS = 430;
    private static final int[] ODD = {Integer.MIN_VALUE, Integer.MAX_VALUE, -1, 0, 60, 61, Integer.MIN_VALUE + 1, 1 << 16};

    private final LineDesk desk = new LineDesk();
    private final DeskModel model = new DeskModel();
    private final int run;
    private final int putsInTen;
    private final int kindsOfValue;
    private long seed;

    private ModelTest(int run) {
        this.run = run;
        this.seed = run * 7919L + 17;
        this.putsInTen = run % 5;
        this.kindsOfValue = 1 + run % 7;
    }

    public static void main(String[] args) {
        for (int run = 0; run < RUNS && !Due.anyWrong(); run++) {
            ModelTest test = new ModelTest(run);
            for (int k = 0; k < CALLS && !Due.anyWrong(); k++) {
                test.step(k);
            }
            test.compareWhole();
        }
        Due.end("ModelTest");
    }

    private int below(int bound) {
        seed = seed * 6364136223846793005L + 1442695040888963407L;
        return (int) ((seed >>> 33) % bound);
    }

    private int number() {
        if (below(40) == 0) {
            return ODD[below(ODD.length)];
        }
        return below(model.lines() + 3) - 1;
    }

    private int inside() {
        return below(12) == 0 ? number() : 1 + below(Math.max(1, model.lines()));
    }

    private int end(int from) {
        if (below(12) == 0 || from < 1 || from > model.lines()) {
            return number();
        }
        int room = model.lines() - from + 1;
        return from + below(below(2) == 0 ? room : Math.min(room, 5));
    }

    private int value() {
        return below(60) == 0 ? ODD[below(ODD.length)] : below(kindsOfValue);
    }

    private void step(int k) {
        if (below(10) < putsInTen) {
            put(k);
            return;
        }
        switch (below(13)) {
            case 0: put(k); break;
            case 1: remove(k); break;
            case 2: move(k); break;
            case 3: copy(k); break;
            case 4: replace(k); break;
            case 5: all(k); break;
            case 6: mark(k); break;
            case 7: go(k); break;
            case 8: case 9: undo(k); break;
            default: look(k); break;
        }
    }

    private void same(int k, String call, int got, int want) {
        Due.is("run " + run + ", call " + k + ": " + call, got, want);
    }

    private void put(int k) {
        int at = below(3) == 0 ? number() : below(model.lines() + 1);
        int value = value();
        same(k, "put(" + at + ", " + value + ")", desk.put(at, value), model.put(at, value));
    }

    private void remove(int k) {
        int from = inside();
        int to = below(3) == 0 ? end(from) : from;
        same(k, "remove(" + from + ", " + to + ")", desk.remove(from, to), model.remove(from, to));
    }

    private void move(int k) {
        int from = inside();
        int to = end(from);
        int dest = number();
        same(k, "move(" + from + ", " + to + ", " + dest + ")", desk.move(from, to, dest), model.move(from, to, dest));
    }

    private void copy(int k) {
        int from = inside();
        int to = end(from);
        int dest = number();
        same(k, "copy(" + from + ", " + to + ", " + dest + ")", desk.copy(from, to, dest), model.copy(from, to, dest));
    }

    private void replace(int k) {
        int from = inside();
        int to = end(from);
        int old = value();
        int value = value();
        same(k, "replace(" + from + ", " + to + ", " + old + ", " + value + ")",
                desk.replace(from, to, old, value), model.replace(from, to, old, value));
    }

    private void all(int k) {
        int value = value();
        int kind = below(20) == 0 ? number() : below(5);
        same(k, "all(" + value + ", " + kind + ")", desk.all(value, kind), model.all(value, kind));
    }

    private void mark(int k) {
        int letter = below(20) == 0 ? ODD[below(ODD.length)] : below(8) - 2;
        int n = number();
        same(k, "mark(" + letter + ", " + n + ")", desk.mark(letter, n), model.mark(letter, n));
    }

    private void go(int k) {
        int n = number();
        same(k, "go(" + n + ")", desk.go(n), model.go(n));
    }

    private void undo(int k) {
        same(k, "undo()", desk.undo(), model.undo());
    }

    private void look(int k) {
        int n = number();
        int value = value();
        switch (below(5)) {
            case 0: same(k, "marked(" + n + ")", desk.marked(n), model.marked(n)); break;
            case 1: same(k, "present()", desk.present(), model.present()); break;
            case 2: same(k, "line(" + n + ")", desk.line(n), model.line(n)); break;
            case 3: same(k, "lines()", desk.lines(), model.lines()); break;
            default: same(k, "find(" + value + ")", desk.find(value), model.find(value)); break;
        }
    }

    private void compareWhole() {
        same(CALLS, "lines()", desk.lines(), model.lines());
        same(CALLS, "present()", desk.present(), model.present());
        for (int m = 0; m < 4; m++) {
            same(CALLS, "marked(" + m + ")", desk.marked(m), model.marked(m));
        }
        for (int n = 0; n <= 61; n++) {
            same(CALLS, "line(" + n + ")", desk.line(n), model.line(n));
        }
        for (int value = 0; value < kindsOfValue; value++) {
            same(CALLS, "find(" + value + ")", desk.find(value), model.find(value));
        }
    }
}
