import java.util.stream.Collectors;

/** An object of the class as the document lets it be used: it counts its calls, and tells when they are over 512. */
final class Clip {
    private static final int ALLOWED = 512;

    private final ClipboardHistory object = new ClipboardHistory();
    private int calls;

    private ClipboardHistory next() {
        calls++;
        if (calls == ALLOWED + 1) {
            Check.wrong("a test makes more than 512 calls on one object: " + StackWalker.getInstance().walk(frames ->
                frames.map(f -> f.getMethodName() + " " + f.getLineNumber()).collect(Collectors.joining(", "))));
        }
        return object;
    }

    /** How many calls were made so far. */
    int calls() {
        return calls;
    }

    int append(int c) {
        return next().append(c);
    }

    int clearText() {
        return next().clearText();
    }

    int errorPosition() {
        return next().errorPosition();
    }

    int load() {
        return next().load();
    }

    int about(int what) {
        return next().about(what);
    }

    int conversion(int c, int what) {
        return next().conversion(c, what);
    }

    int place(int p, int what) {
        return next().place(p, what);
    }

    int entry(int e, int what) {
        return next().entry(e, what);
    }

    int form(int e, int f, boolean loss) {
        return next().form(e, f, loss);
    }

    int copy(int f, int size) {
        return next().copy(f, size);
    }

    int offer(int f, int size) {
        return next().offer(f, size);
    }

    int paste(int e, int p) {
        return next().paste(e, p);
    }

    int togglePin(int e) {
        return next().togglePin(e);
    }

    int remove(int e) {
        return next().remove(e);
    }

    int setBudget(int v) {
        return next().setBudget(v);
    }

    int setCost(int c, int v) {
        return next().setCost(c, v);
    }

    int undo() {
        return next().undo();
    }

    int path(int a, int b, int what) {
        return next().path(a, b, what);
    }

    int step(int a, int b, int i) {
        return next().step(a, b, i);
    }

    int sizeAfter(int a, int b, int size) {
        return next().sizeAfter(a, b, size);
    }

    int reachable(int a) {
        return next().reachable(a);
    }

    int without(int c, int a, int b) {
        return next().without(c, a, b);
    }

    int worth(int c) {
        return next().worth(c);
    }

    int idle() {
        return next().idle();
    }

    int between(int f) {
        return next().between(f);
    }

    int way(int e, int p, int what) {
        return next().way(e, p, what);
    }

    int bestFor(int p) {
        return next().bestFor(p);
    }

    int victims(int size) {
        return next().victims(size);
    }

    int room() {
        return next().room();
    }

    int ranked(int i) {
        return next().ranked(i);
    }

    int runScript(int n, long script) {
        return next().runScript(n, script);
    }

    int simulate(long seed, int m) {
        return next().simulate(seed, m);
    }

    int save(int slot) {
        return next().save(slot);
    }

    int restore(int slot) {
        return next().restore(slot);
    }
}
