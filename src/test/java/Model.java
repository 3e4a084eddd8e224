import java.util.ArrayList;
import java.util.Collections;
import java.util.List;
import java.util.Map;
import java.util.TreeMap;
import java.util.TreeSet;

/**
 * The document written down a second time, as slowly and as literally as it can be: paths by listing all of
 * them, room by trying, undo by whole copies. ModelTest holds the class against it.
 */
final class Model {
    static final int NONE = -9;

    record Conversion(int from, int to, int growth, int loss) { }

    record Place(TreeSet<Integer> accepts, int limit) { }

    record Form(int size, int loss, boolean original) { }

    static final class Entry {
        TreeMap<Integer, Form> forms = new TreeMap<>();
        boolean pinned;
        int uses;
        int lastUse;

        Entry copyOf() {
            Entry e = new Entry();
            e.forms.putAll(forms);
            e.pinned = pinned;
            e.uses = uses;
            e.lastUse = lastUse;
            return e;
        }

        int size() {
            return forms.values().stream().mapToInt(Form::size).sum();
        }
    }

    static final class State {
        List<Entry> entries = new ArrayList<>();
        List<Integer> costs = new ArrayList<>();
        int time;
        int total;
        int budget;

        State copyOf() {
            State s = new State();
            for (Entry e : entries) {
                s.entries.add(e.copyOf());
            }
            s.costs.addAll(costs);
            s.time = time;
            s.total = total;
            s.budget = budget;
            return s;
        }

        int used() {
            return entries.stream().mapToInt(Entry::size).sum();
        }

        long weight(Entry e) {
            return Math.min((long) e.size() * (time - e.lastUse + 1) / (e.uses + 1), 999999999L);
        }

        Entry heaviest(Entry except) {
            Entry best = null;
            for (Entry e : entries) {
                if (!e.pinned && e != except && (best == null || weight(e) >= weight(best))) {
                    best = e;
                }
            }
            return best;
        }

        /** May leave the state half changed when it fails: the callers work on copies. */
        boolean makeRoom(int s, Entry x, boolean entriesMayGo) {
            while (used() + s > budget) {
                int owner = -1;
                int format = -1;
                int size = -1;
                for (int i = entries.size() - 1; i >= 0; i--) {
                    for (Map.Entry<Integer, Form> f : entries.get(i).forms.entrySet()) {
                        if (entries.get(i) != x && !f.getValue().original() && f.getValue().size() > size) {
                            owner = i;
                            format = f.getKey();
                            size = f.getValue().size();
                        }
                    }
                }
                if (owner >= 0) {
                    entries.get(owner).forms.remove(format);
                    continue;
                }
                Entry victim = entriesMayGo ? heaviest(x) : null;
                if (victim == null) {
                    return false;
                }
                entries.remove(victim);
            }
            return true;
        }
    }

    record Path(List<Integer> formats, int cost, int loss) {
        int steps() {
            return formats.size() - 1;
        }
    }

    record Way(int cost, int steps, int end, int begin, int size, int loss) { }

    private final StringBuilder text = new StringBuilder();
    private int formats = 1;
    private List<Conversion> conversions = new ArrayList<>();
    private List<Place> places = new ArrayList<>();
    private State now = new State();
    private final List<State> memory = new ArrayList<>();
    private final State[] slots = new State[2];

    Model() {
        now.budget = 1000;
    }

    // ---- text

    int append(int c) {
        argument(c >= 0 && c <= 255);
        state(text.length() < 160);
        text.append((char) c);
        return text.length();
    }

    int clearText() {
        int n = text.length();
        text.setLength(0);
        return n;
    }

    /** What has been read so far, sign by sign. */
    private static final class Reading {
        int formats;
        int budget;
        List<int[]> conversions = new ArrayList<>();
        List<Place> places = new ArrayList<>();
        String item = "";

        boolean full(int from) {
            return conversions.stream().filter(c -> c[0] == from).count() == formats - 1;
        }

        boolean exists(int from, int to) {
            return conversions.stream().anyMatch(c -> c[0] == from && c[1] == to);
        }

        /** True if the sign may stand next; then it is taken. */
        boolean take(char sign) {
            if (!mayStand(sign)) {
                return false;
            }
            item += sign;
            if (item.matches("K\\d{6}")) {
                formats = item.charAt(1) - '0';
                budget = Integer.parseInt(item.substring(2));
                item = "";
            } else if (item.matches("c\\d{7}")) {
                conversions.add(new int[] {item.charAt(1) - '0', item.charAt(2) - '0',
                    Integer.parseInt(item.substring(3, 5)), Integer.parseInt(item.substring(5, 7)), item.charAt(7) - '0'});
                item = "";
            } else if (item.matches("p\\d+:\\d{5}")) {
                TreeSet<Integer> accepts = new TreeSet<>();
                for (char d : item.substring(1, item.indexOf(':')).toCharArray()) {
                    accepts.add(d - '0');
                }
                places.add(new Place(accepts, Integer.parseInt(item.substring(item.indexOf(':') + 1))));
                item = "";
            }
            return true;
        }

        private boolean mayStand(char sign) {
            boolean digit = sign >= '0' && sign <= '9';
            int d = sign - '0';
            if (formats == 0) {
                switch (item.length()) {
                    case 0: return sign == 'K';
                    case 1: return digit && d >= 1 && d <= 8;
                    case 6: return digit && !(item + sign).endsWith("00000");
                    default: return digit;
                }
            }
            if (item.isEmpty()) {
                return sign == 'c' && conversions.size() < 20 && conversions.size() < formats * (formats - 1)
                    || sign == 'p' && places.size() < 6;
            }
            if (item.charAt(0) == 'c') {
                switch (item.length()) {
                    case 1: return digit && d < formats && !full(d);
                    case 2: return digit && d < formats && d != item.charAt(1) - '0' && !exists(item.charAt(1) - '0', d);
                    case 4: return digit && !(item.substring(3) + sign).equals("00");
                    case 6: return digit && !(item.substring(5) + sign).equals("00");
                    default: return digit;
                }
            }
            int colon = item.indexOf(':');
            if (colon < 0) {
                char last = item.charAt(item.length() - 1);
                return item.length() > 1 && sign == ':' || digit && d < formats && (item.length() == 1 || sign > last);
            }
            return digit && !(item.substring(colon + 1) + sign).equals("00000");
        }
    }

    private int read(Reading r) {
        for (int i = 0; i < text.length(); i++) {
            if (!r.take(text.charAt(i))) {
                return i;
            }
        }
        return r.formats > 0 && r.item.isEmpty() ? NONE : text.length();
    }

    int errorPosition() {
        return read(new Reading());
    }

    int load() {
        Reading r = new Reading();
        state(read(r) == NONE);
        formats = r.formats;
        conversions = new ArrayList<>();
        now = new State();
        now.budget = r.budget;
        for (int[] c : r.conversions) {
            conversions.add(new Conversion(c[0], c[1], c[3], c[4]));
            now.costs.add(c[2]);
        }
        places = r.places;
        memory.clear();
        slots[0] = null;
        slots[1] = null;
        return conversions.size();
    }

    // ---- what there is

    int about(int what) {
        argument(what >= 0 && what <= 7);
        return new int[] {formats, conversions.size(), places.size(), now.entries.size(), now.budget, now.used(), now.time,
            now.total}[what];
    }

    int conversion(int c, int what) {
        index(c, conversions.size());
        argument(what >= 0 && what <= 4);
        Conversion x = conversions.get(c);
        return new int[] {x.from(), x.to(), now.costs.get(c), x.growth(), x.loss()}[what];
    }

    int place(int p, int what) {
        index(p, places.size());
        argument(what == 0 || what == 1);
        return what == 0 ? bits(places.get(p).accepts()) : places.get(p).limit();
    }

    int entry(int e, int what) {
        index(e, now.entries.size());
        argument(what >= 0 && what <= 6);
        Entry x = now.entries.get(e);
        TreeSet<Integer> derived = new TreeSet<>();
        x.forms.forEach((f, form) -> {
            if (!form.original()) {
                derived.add(f);
            }
        });
        return new int[] {x.size(), bits(x.forms.keySet()), bits(derived), x.pinned ? 1 : 0, x.uses, x.lastUse,
            (int) now.weight(x)}[what];
    }

    int form(int e, int f, boolean loss) {
        index(e, now.entries.size());
        index(f, formats);
        Form x = now.entries.get(e).forms.get(f);
        return x == null ? NONE : loss ? x.loss() : x.size();
    }

    // ---- actions

    int copy(int f, int size) {
        index(f, formats);
        argument(size >= 1 && size <= 9999);
        act(copied(now, f, size));
        return now.used();
    }

    int offer(int f, int size) {
        index(f, formats);
        argument(size >= 1 && size <= 9999);
        act(offered(now, f, size));
        return now.used();
    }

    int paste(int e, int p) {
        index(e, now.entries.size());
        index(p, places.size());
        Way w = wayOf(now, e, p);
        act(pasted(now, e, p));
        return w.end();
    }

    int togglePin(int e) {
        index(e, now.entries.size());
        State s = now.copyOf();
        s.entries.get(e).pinned ^= true;
        act(s);
        return (int) now.entries.stream().filter(x -> x.pinned).count();
    }

    int remove(int e) {
        index(e, now.entries.size());
        State s = now.copyOf();
        int size = s.entries.remove(e).size();
        act(s);
        return size;
    }

    int setBudget(int v) {
        argument(v >= 1 && v <= 99999);
        State s = now.copyOf();
        s.budget = v;
        act(s.makeRoom(0, null, true) ? s : null);
        return now.used();
    }

    int setCost(int c, int v) {
        index(c, conversions.size());
        argument(v >= 1 && v <= 99);
        State s = now.copyOf();
        int old = s.costs.set(c, v);
        act(s);
        return old;
    }

    int undo() {
        state(!memory.isEmpty());
        now = memory.remove(memory.size() - 1);
        return memory.size();
    }

    private void act(State then) {
        state(then != null);
        memory.add(now);
        if (memory.size() > 14) {
            memory.remove(0);
        }
        now = then;
    }

    private static State copied(State before, int f, int size) {
        State s = before.copyOf();
        s.time++;
        if (s.entries.size() == 12 && !s.entries.remove(s.heaviest(null)) || !s.makeRoom(size, null, true)) {
            return null;
        }
        Entry e = new Entry();
        e.forms.put(f, new Form(size, 0, true));
        e.lastUse = s.time;
        s.entries.add(0, e);
        return s;
    }

    private static State offered(State before, int f, int size) {
        State s = before.copyOf();
        s.time++;
        if (s.entries.isEmpty()) {
            return null;
        }
        Entry e = s.entries.get(0);
        Form old = e.forms.remove(f);
        if (old != null && old.original() || !s.makeRoom(size, e, true)) {
            return null;
        }
        e.forms.put(f, new Form(size, 0, true));
        return s;
    }

    private State pasted(State before, int e, int p) {
        Way w = wayOf(before, e, p);
        if (w == null) {
            return null;
        }
        State s = before.copyOf();
        if (!s.entries.get(e).forms.containsKey(w.end())) {
            State t = s.copyOf();
            if (t.makeRoom(w.size(), t.entries.get(e), false)) {
                s = t;
                s.entries.get(e).forms.put(w.end(), new Form(w.size(), w.loss(), false));
            }
        }
        s.time++;
        s.total += w.cost();
        Entry x = s.entries.remove(e);
        x.uses++;
        x.lastUse = s.time;
        s.entries.add(0, x);
        return s;
    }

    // ---- paths

    private void walk(List<Integer> so, int b, int cost, int loss, List<Integer> costs, List<Path> found) {
        int last = so.get(so.size() - 1);
        if (last == b) {
            found.add(new Path(List.copyOf(so), cost, loss));
            return;
        }
        for (int c = 0; c < conversions.size(); c++) {
            Conversion x = conversions.get(c);
            if (x.from() == last && !so.contains(x.to()) && costs.get(c) > 0) {
                so.add(x.to());
                walk(so, b, cost + costs.get(c), loss + x.loss(), costs, found);
                so.remove(so.size() - 1);
            }
        }
    }

    private static int compare(Path x, Path y) {
        if (x.cost() != y.cost()) {
            return x.cost() - y.cost();
        }
        if (x.steps() != y.steps()) {
            return x.steps() - y.steps();
        }
        return x.formats().toString().compareTo(y.formats().toString());
    }

    /** A cost of 0 stands for a conversion that does not exist. */
    private Path best(int a, int b, List<Integer> costs) {
        List<Path> found = new ArrayList<>();
        walk(new ArrayList<>(List.of(a)), b, 0, 0, costs, found);
        return found.isEmpty() ? null : Collections.min(found, Model::compare);
    }

    private int number(int from, int to) {
        for (int c = 0; c < conversions.size(); c++) {
            if (conversions.get(c).from() == from && conversions.get(c).to() == to) {
                return c;
            }
        }
        throw new AssertionError("no conversion");
    }

    private int sizeAlong(Path path, int size) {
        long s = size;
        for (int i = 0; i < path.steps(); i++) {
            Conversion x = conversions.get(number(path.formats().get(i), path.formats().get(i + 1)));
            s = Math.min((long) Math.ceil(s * x.growth() / 10.0), 99999);
        }
        return (int) s;
    }

    private boolean isStep(int c, Path path) {
        if (path == null) {
            return false;
        }
        for (int i = 0; i < path.steps(); i++) {
            if (number(path.formats().get(i), path.formats().get(i + 1)) == c) {
                return true;
            }
        }
        return false;
    }

    private boolean isUsed(int c, List<Integer> costs) {
        for (int a = 0; a < formats; a++) {
            for (int b = 0; b < formats; b++) {
                if (isStep(c, best(a, b, costs))) {
                    return true;
                }
            }
        }
        return false;
    }

    int path(int a, int b, int what) {
        index(a, formats);
        index(b, formats);
        argument(what >= 0 && what <= 2);
        Path x = best(a, b, now.costs);
        return x == null ? NONE : new int[] {x.cost(), x.steps(), x.loss()}[what];
    }

    int step(int a, int b, int i) {
        index(a, formats);
        index(b, formats);
        argument(i >= 0 && i <= 7);
        Path x = best(a, b, now.costs);
        return x == null || i >= x.formats().size() ? NONE : x.formats().get(i);
    }

    int sizeAfter(int a, int b, int size) {
        index(a, formats);
        index(b, formats);
        argument(size >= 1 && size <= 99999);
        Path x = best(a, b, now.costs);
        return x == null ? NONE : sizeAlong(x, size);
    }

    int reachable(int a) {
        index(a, formats);
        TreeSet<Integer> set = new TreeSet<>();
        for (int b = 0; b < formats; b++) {
            if (best(a, b, now.costs) != null) {
                set.add(b);
            }
        }
        return bits(set);
    }

    int without(int c, int a, int b) {
        index(c, conversions.size());
        index(a, formats);
        index(b, formats);
        List<Integer> costs = new ArrayList<>(now.costs);
        costs.set(c, 0);
        Path x = best(a, b, costs);
        return x == null ? NONE : x.cost();
    }

    int worth(int c) {
        index(c, conversions.size());
        List<Integer> costs = new ArrayList<>(now.costs);
        for (int v = 99; v >= 1; v--) {
            costs.set(c, v);
            if (isUsed(c, costs)) {
                return v;
            }
        }
        throw new AssertionError("a conversion that is worth nothing");
    }

    int idle() {
        TreeSet<Integer> set = new TreeSet<>();
        for (int c = 0; c < conversions.size(); c++) {
            if (!isUsed(c, now.costs)) {
                set.add(c);
            }
        }
        return bits(set);
    }

    int between(int f) {
        index(f, formats);
        int n = 0;
        for (int a = 0; a < formats; a++) {
            for (int b = 0; b < formats; b++) {
                Path x = a == b || a == f || b == f ? null : best(a, b, now.costs);
                n += x != null && x.formats().contains(f) ? 1 : 0;
            }
        }
        return n;
    }

    // ---- pasting, eviction

    private Way wayOf(State s, int e, int p) {
        Way found = null;
        for (Map.Entry<Integer, Form> f : s.entries.get(e).forms.entrySet()) {
            for (int end : places.get(p).accepts()) {
                Path x = best(f.getKey(), end, s.costs);
                if (x == null || sizeAlong(x, f.getValue().size()) > places.get(p).limit()) {
                    continue;
                }
                Way w = new Way(x.cost(), x.steps(), end, f.getKey(), sizeAlong(x, f.getValue().size()),
                    f.getValue().loss() + x.loss());
                if (found == null || key(w) < key(found)) {
                    found = w;
                }
            }
        }
        return found;
    }

    private static long key(Way w) {
        return ((w.cost() * 10L + w.steps()) * 10 + w.end()) * 10 + w.begin();
    }

    int way(int e, int p, int what) {
        index(e, now.entries.size());
        index(p, places.size());
        argument(what >= 0 && what <= 4);
        Way w = wayOf(now, e, p);
        return w == null ? NONE : new int[] {w.cost(), w.begin(), w.end(), w.size(), w.loss()}[what];
    }

    int bestFor(int p) {
        index(p, places.size());
        int found = NONE;
        long least = Long.MAX_VALUE;
        for (int e = 0; e < now.entries.size(); e++) {
            Way w = wayOf(now, e, p);
            if (w != null && w.cost() * 100000L + w.loss() < least) {
                least = w.cost() * 100000L + w.loss();
                found = e;
            }
        }
        return found;
    }

    int victims(int size) {
        argument(size >= 1 && size <= 9999);
        State marked = now.copyOf();
        State then = copied(marked, 0, size);
        if (then == null) {
            return NONE;
        }
        // An entry is known again by its place in the order, which copying keeps, and by what it holds.
        TreeSet<Integer> gone = new TreeSet<>();
        int at = then.entries.size() - 1;
        for (int e = now.entries.size() - 1; e >= 0; e--) {
            if (at >= 1 && same(now.entries.get(e), then.entries.get(at))) {
                at--;
            } else {
                gone.add(e);
            }
        }
        return bits(gone);
    }

    /** No two entries were made or used at the same time, so the last use tells them apart. */
    private static boolean same(Entry x, Entry y) {
        return x.lastUse == y.lastUse;
    }

    int room() {
        // nothing larger than the budget can be copied at all
        for (int size = Math.min(9999, now.budget); size >= 1; size--) {
            if (victims(size) == 0) {
                return size;
            }
        }
        return 0;
    }

    int ranked(int i) {
        index(i, now.entries.size());
        List<Integer> order = new ArrayList<>();
        for (int e = now.entries.size() - 1; e >= 0; e--) {
            order.add(e);
        }
        order.sort((x, y) -> Long.compare(now.weight(now.entries.get(y)), now.weight(now.entries.get(x))));
        return order.get(i);
    }

    // ---- scripts, simulations

    int runScript(int n, long script) {
        argument(n >= 1 && n <= 3);
        argument(script >= 0 && Long.toString(script).length() <= 6 * n);
        String all = "0".repeat(6 * n - Long.toString(script).length()) + script;
        State s = now;
        for (int i = 0; i < n; i++) {
            s = command(s, all.substring(6 * i, 6 * i + 6));
            if (s == null) {
                return i;
            }
        }
        return NONE;
    }

    private State command(State s, String g) {
        int f = g.charAt(1) - '0';
        int e = Integer.parseInt(g.substring(1, 3));
        int p = g.charAt(3) - '0';
        int size = Integer.parseInt(g.substring(2));
        boolean hasEntry = e < s.entries.size();
        State then = s.copyOf();
        if (g.startsWith("1")) {
            return f < formats && size > 0 ? copied(s, f, size) : null;
        }
        if (g.startsWith("2")) {
            return f < formats && size > 0 ? offered(s, f, size) : null;
        }
        if (g.matches("3...00")) {
            return hasEntry && p < places.size() ? pasted(s, e, p) : null;
        }
        if (g.matches("4..000") && hasEntry) {
            then.entries.get(e).pinned ^= true;
            return then;
        }
        if (g.matches("5..000") && hasEntry) {
            then.entries.remove(e);
            return then;
        }
        if (g.startsWith("6")) {
            return s.used() <= Integer.parseInt(g.substring(1)) ? s : null;
        }
        if (g.matches("7000..")) {
            return s.entries.size() == Integer.parseInt(g.substring(4)) ? s : null;
        }
        if (g.matches("8...00") && hasEntry) {
            return s.entries.get(e).forms.containsKey(p) ? s : null;
        }
        return null;
    }

    int simulate(long seed, int m) {
        argument(m >= 1 && m <= 50);
        State s = now;
        long x = seed;
        for (int i = 0; i < m; i++) {
            x = x * 6364136223846793005L + 1442695040888963407L;
            int r = (int) (x >>> 33);
            State then;
            if (r % 3 == 0 || s.entries.isEmpty() || places.isEmpty()) {
                then = copied(s, r / 4 % formats, 1 + r / 64 % 500);
            } else {
                then = pasted(s, r / 4 % s.entries.size(), r / 64 % places.size());
            }
            s = then == null ? s : then;
        }
        return s.total + s.used();
    }

    // ---- save slots

    int save(int slot) {
        index(slot, 2);
        slots[slot] = now.copyOf();
        return now.entries.size();
    }

    int restore(int slot) {
        index(slot, 2);
        state(slots[slot] != null);
        now = slots[slot].copyOf();
        memory.clear();
        return now.entries.size();
    }

    private static int bits(Iterable<Integer> set) {
        int bits = 0;
        for (int i : set) {
            bits |= 1 << i;
        }
        return bits;
    }

    private static void index(int i, int size) {
        if (i < 0 || i >= size) {
            throw new IndexOutOfBoundsException();
        }
    }

    private static void argument(boolean good) {
        if (!good) {
            throw new IllegalArgumentException();
        }
    }

    private static void state(boolean good) {
        if (!good) {
            throw new IllegalStateException();
        }
    }
}
