/**
 * A clipboard with a history of entries in several formats, conversions between the formats, places to
 * paste into, and a size budget. The document (shared/DOC.md) says what each call promises.
 *
 * Everything that a call needs is made in the constructor and used again, so that no call but a throwing
 * one makes an object.
 */
public final class ClipboardHistory {
    public static final int NONE = -9;

    private static final int MAX_FORMATS = 8;
    private static final int MAX_CONVERSIONS = 20;
    private static final int MAX_PLACES = 6;
    private static final int MAX_ENTRIES = 12;
    private static final int MAX_REMEMBERED = 14;
    private static final int MAX_TEXT = 160;
    private static final int MAX_CHARACTER = 255;
    private static final int MAX_COST = 99;
    private static final int MAX_SIZE = 99999;
    private static final int MAX_NEW_SIZE = 9999;
    private static final int MAX_BUDGET = 99999;
    private static final int MAX_WEIGHT = 999999999;
    private static final int MAX_COMMANDS = 3;
    private static final int MAX_ROUNDS = 50;
    private static final int SLOTS = 2;
    private static final int FIRST_BUDGET = 1000;
    private static final long COMMAND_RANGE = 1000000L;

    /** The inside word for "no such conversion, entry, format or digit"; never an answer of the face. */
    private static final int ABSENT = -1;

    private final TextBuffer text = new TextBuffer();
    private final Paths paths = new Paths();
    private final Paths otherPaths = new Paths();
    private final Way foundWay = new Way();
    private final State now = new State();
    private final State trial = new State();
    private final State[] memory = new State[MAX_REMEMBERED];
    private final State[] slots = new State[SLOTS];
    private final boolean[] slotFilled = new boolean[SLOTS];
    private Board board = new Board();
    private Board draft = new Board();
    private int remembered;

    public ClipboardHistory() {
        for (int i = 0; i < memory.length; i++) {
            memory[i] = new State();
        }
        for (int i = 0; i < slots.length; i++) {
            slots[i] = new State();
        }
        startOver();
    }

    // ---- text

    public int append(int c) throws IllegalArgumentException, IllegalStateException {
        if (c < 0 || c > MAX_CHARACTER) {
            throw new IllegalArgumentException("the character code is not 0 to 255");
        }
        if (text.isFull()) {
            throw new IllegalStateException("the text is full");
        }
        text.addSign(c);
        return text.length;
    }

    public int clearText() {
        int previous = text.length;
        text.length = 0;
        return previous;
    }

    public int errorPosition() {
        return text.readInto(draft);
    }

    public int load() throws IllegalStateException {
        if (text.readInto(draft) != NONE) {
            throw new IllegalStateException("the text is not a clipboard text");
        }
        Board previous = board;
        board = draft;
        draft = previous;
        startOver();
        return board.conversions;
    }

    // ---- what there is

    public int about(int what) throws IllegalArgumentException {
        switch (what) {
            case 0: return board.formats;
            case 1: return board.conversions;
            case 2: return board.places;
            case 3: return now.count;
            case 4: return now.budget;
            case 5: return now.usedSize();
            case 6: return now.time;
            case 7: return now.totalCost;
            default: throw new IllegalArgumentException("what is not 0 to 7");
        }
    }

    public int conversion(int c, int what) throws IndexOutOfBoundsException, IllegalArgumentException {
        requireConversion(c);
        switch (what) {
            case 0: return board.from[c];
            case 1: return board.to[c];
            case 2: return now.costs[c];
            case 3: return board.growth[c];
            case 4: return board.loss[c];
            default: throw new IllegalArgumentException("what is not 0 to 4");
        }
    }

    public int place(int p, int what) throws IndexOutOfBoundsException, IllegalArgumentException {
        requirePlace(p);
        switch (what) {
            case 0: return board.accepted[p];
            case 1: return board.limit[p];
            default: throw new IllegalArgumentException("what is not 0 or 1");
        }
    }

    public int entry(int e, int what) throws IndexOutOfBoundsException, IllegalArgumentException {
        requireEntry(e);
        Entry asked = now.entries[e];
        switch (what) {
            case 0: return asked.size;
            case 1: return asked.forms;
            case 2: return asked.derived;
            case 3: return asked.pinned ? 1 : 0;
            case 4: return asked.uses;
            case 5: return asked.lastUse;
            case 6: return asked.weight(now.time);
            default: throw new IllegalArgumentException("what is not 0 to 6");
        }
    }

    public int form(int e, int f, boolean loss) throws IndexOutOfBoundsException {
        requireEntry(e);
        requireFormat(f);
        Entry asked = now.entries[e];
        if (!asked.holds(f)) {
            return NONE;
        }
        return loss ? asked.losses[f] : asked.sizes[f];
    }

    // ---- actions

    public int copy(int f, int size)
            throws IndexOutOfBoundsException, IllegalArgumentException, IllegalStateException {
        requireFormat(f);
        requireNewSize(size);
        if (!now.canAddEntry(size)) {
            throw new IllegalStateException("no room for the entry");
        }
        rememberNow();
        now.addEntry(f, size);
        return now.usedSize();
    }

    public int offer(int f, int size)
            throws IndexOutOfBoundsException, IllegalArgumentException, IllegalStateException {
        requireFormat(f);
        requireNewSize(size);
        if (!now.canAddForm(f, size)) {
            throw new IllegalStateException("no entry, an original form already, or no room for the form");
        }
        rememberNow();
        now.addForm(f, size);
        return now.usedSize();
    }

    public int paste(int e, int p) throws IndexOutOfBoundsException, IllegalStateException {
        requireEntry(e);
        requirePlace(p);
        if (!findWay(now, e, p)) {
            throw new IllegalStateException("the entry cannot be pasted into the place");
        }
        rememberNow();
        now.useEntry(e, foundWay);
        return foundWay.end;
    }

    public int togglePin(int e) throws IndexOutOfBoundsException {
        requireEntry(e);
        rememberNow();
        now.switchPin(e);
        return now.pinnedCount();
    }

    public int remove(int e) throws IndexOutOfBoundsException {
        requireEntry(e);
        rememberNow();
        int size = now.entries[e].size;
        now.dropEntry(e);
        return size;
    }

    public int setBudget(int v) throws IllegalArgumentException, IllegalStateException {
        if (v < 1 || v > MAX_BUDGET) {
            throw new IllegalArgumentException("the budget is not 1 to 99999");
        }
        if (now.leastSize(ABSENT, false) > v) {
            throw new IllegalStateException("what cannot be removed is larger than the budget");
        }
        rememberNow();
        now.budget = v;
        now.makeRoom(0, ABSENT);
        return now.usedSize();
    }

    public int setCost(int c, int v) throws IndexOutOfBoundsException, IllegalArgumentException {
        requireConversion(c);
        if (v < 1 || v > MAX_COST) {
            throw new IllegalArgumentException("the cost is not 1 to 99");
        }
        rememberNow();
        int previous = now.costs[c];
        now.costs[c] = v;
        findPaths();
        return previous;
    }

    public int undo() throws IllegalStateException {
        if (remembered < 1 || remembered > memory.length) {
            throw new IllegalStateException("no state is remembered");
        }
        remembered--;
        now.takeOver(memory[remembered]);
        findPaths();
        return remembered;
    }

    // ---- paths

    public int path(int a, int b, int what) throws IndexOutOfBoundsException, IllegalArgumentException {
        requireFormat(a);
        requireFormat(b);
        switch (what) {
            case 0: return paths.costOf(a, b);
            case 1: return paths.stepsOf(a, b);
            case 2: return paths.lossOf(a, b, board);
            default: throw new IllegalArgumentException("what is not 0 to 2");
        }
    }

    public int step(int a, int b, int i) throws IndexOutOfBoundsException, IllegalArgumentException {
        requireFormat(a);
        requireFormat(b);
        if (i < 0 || i >= MAX_FORMATS) {
            throw new IllegalArgumentException("the index is not 0 to 7");
        }
        return paths.formatAt(a, b, i, board);
    }

    public int sizeAfter(int a, int b, int size) throws IndexOutOfBoundsException, IllegalArgumentException {
        requireFormat(a);
        requireFormat(b);
        if (size < 1 || size > MAX_SIZE) {
            throw new IllegalArgumentException("the size is not 1 to 99999");
        }
        return paths.sizeAtEnd(a, b, size, board);
    }

    public int reachable(int a) throws IndexOutOfBoundsException {
        requireFormat(a);
        int set = 0;
        for (int b = 0; b < board.formats; b++) {
            if (paths.connects(a, b)) {
                set |= 1 << b;
            }
        }
        return set;
    }

    public int without(int c, int a, int b) throws IndexOutOfBoundsException {
        requireConversion(c);
        requireFormat(a);
        requireFormat(b);
        otherPaths.find(board, now.costs, c);
        return otherPaths.costOf(a, b);
    }

    public int worth(int c) throws IndexOutOfBoundsException {
        requireConversion(c);
        otherPaths.find(board, now.costs, c);
        // A part of a best path is a best path itself, so a conversion is a step of one just when it is the
        // best path between its own two formats; at the same cost it is, having the fewest steps.
        int detour = otherPaths.costOf(board.from[c], board.to[c]);
        return detour == NONE ? MAX_COST : Math.min(detour, MAX_COST);
    }

    public int idle() {
        int all = (1 << board.conversions) - 1;
        return all & ~paths.usedConversions(board);
    }

    public int between(int f) throws IndexOutOfBoundsException {
        requireFormat(f);
        int pairs = 0;
        for (int a = 0; a < board.formats; a++) {
            for (int b = 0; b < board.formats; b++) {
                if (a != b && a != f && b != f && paths.passes(a, b, f, board)) {
                    pairs++;
                }
            }
        }
        return pairs;
    }

    // ---- pasting, eviction

    public int way(int e, int p, int what) throws IndexOutOfBoundsException, IllegalArgumentException {
        requireEntry(e);
        requirePlace(p);
        if (what < 0 || what > 4) {
            throw new IllegalArgumentException("what is not 0 to 4");
        }
        if (!findWay(now, e, p)) {
            return NONE;
        }
        switch (what) {
            case 0: return foundWay.cost;
            case 1: return foundWay.begin;
            case 2: return foundWay.end;
            case 3: return foundWay.size;
            default: return foundWay.loss;
        }
    }

    public int bestFor(int p) throws IndexOutOfBoundsException {
        requirePlace(p);
        int best = NONE;
        int bestCost = 0;
        int bestLoss = 0;
        for (int e = 0; e < now.count; e++) {
            if (findWay(now, e, p) && (best == NONE || foundWay.cost < bestCost
                    || (foundWay.cost == bestCost && foundWay.loss < bestLoss))) {
                best = e;
                bestCost = foundWay.cost;
                bestLoss = foundWay.loss;
            }
        }
        return best;
    }

    public int victims(int size) throws IllegalArgumentException {
        requireNewSize(size);
        if (!now.canAddEntry(size)) {
            return NONE;
        }
        trial.takeOver(now);
        trial.tagEntries();
        trial.addEntry(0, size);
        int all = (1 << now.count) - 1;
        return all & ~trial.tagSet();
    }

    public int room() {
        if (now.isFull()) {
            return 0;
        }
        int free = now.budget - now.leastSize(ABSENT, true);
        return Math.max(0, Math.min(free, MAX_NEW_SIZE));
    }

    public int ranked(int i) throws IndexOutOfBoundsException {
        if (i < 0 || i >= now.count) {
            throw new IndexOutOfBoundsException("there is no such rank");
        }
        int found = 0;
        for (int e = 0; e < now.count; e++) {
            if (now.rankOf(e) == i) {
                found = e;
            }
        }
        return found;
    }

    // ---- scripts, simulations

    public int runScript(int n, long script) throws IllegalArgumentException {
        if (n < 1 || n > MAX_COMMANDS) {
            throw new IllegalArgumentException("the number of commands is not 1 to 3");
        }
        if (script < 0 || script >= scriptRange(n)) {
            throw new IllegalArgumentException("the script is negative or has too many digits");
        }
        trial.takeOver(now);
        for (int i = 0; i < n; i++) {
            if (!runCommand(commandAt(script, n - 1 - i))) {
                return i;
            }
        }
        return NONE;
    }

    public int simulate(long seed, int m) throws IllegalArgumentException {
        if (m < 1 || m > MAX_ROUNDS) {
            throw new IllegalArgumentException("the number of rounds is not 1 to 50");
        }
        trial.takeOver(now);
        long x = seed;
        for (int i = 0; i < m; i++) {
            x = x * 6364136223846793005L + 1442695040888963407L;
            runRound((int) (x >>> 33));
        }
        return trial.totalCost + trial.usedSize();
    }

    // ---- save slots

    public int save(int slot) throws IndexOutOfBoundsException {
        requireSlot(slot);
        slots[slot].takeOver(now);
        slotFilled[slot] = true;
        return now.count;
    }

    public int restore(int slot) throws IndexOutOfBoundsException, IllegalStateException {
        requireSlot(slot);
        if (!slotFilled[slot]) {
            throw new IllegalStateException("the slot is empty");
        }
        now.takeOver(slots[slot]);
        remembered = 0;
        findPaths();
        return now.count;
    }

    // ---- what the calls share

    private void startOver() {
        now.begin(board);
        remembered = 0;
        for (int i = 0; i < slotFilled.length; i++) {
            slotFilled[i] = false;
        }
        findPaths();
    }

    /** Due after every change of a cost, since the paths are kept between the calls. */
    private void findPaths() {
        paths.find(board, now.costs, ABSENT);
    }

    private void rememberNow() {
        if (remembered >= memory.length) {
            forgetOldest();
        }
        memory[remembered].takeOver(now);
        remembered++;
    }

    private void forgetOldest() {
        State oldest = memory[0];
        for (int i = 1; i < memory.length; i++) {
            memory[i - 1] = memory[i];
        }
        memory[memory.length - 1] = oldest;
        remembered = memory.length - 1;
    }

    private boolean findWay(State state, int e, int p) {
        return foundWay.search(state.entries[e], p, board, paths);
    }

    private void requireFormat(int f) {
        if (!board.hasFormat(f)) {
            throw new IndexOutOfBoundsException("there is no such format");
        }
    }

    private void requireConversion(int c) {
        if (c < 0 || c >= board.conversions) {
            throw new IndexOutOfBoundsException("there is no such conversion");
        }
    }

    private void requirePlace(int p) {
        if (!board.hasPlace(p)) {
            throw new IndexOutOfBoundsException("there is no such place");
        }
    }

    private void requireEntry(int e) {
        if (!now.hasEntry(e)) {
            throw new IndexOutOfBoundsException("there is no such entry");
        }
    }

    private static void requireSlot(int slot) {
        if (slot < 0 || slot >= SLOTS) {
            throw new IndexOutOfBoundsException("there is no such slot");
        }
    }

    private static void requireNewSize(int size) {
        if (!isNewSize(size)) {
            throw new IllegalArgumentException("the size is not 1 to 9999");
        }
    }

    private static boolean isNewSize(int size) {
        return size >= 1 && size <= MAX_NEW_SIZE;
    }

    // ---- scripts and simulations work on the trial state; their tries tell whether the method would succeed

    private static long scriptRange(int n) {
        long range = 1;
        for (int i = 0; i < n; i++) {
            range *= COMMAND_RANGE;
        }
        return range;
    }

    private static int commandAt(long script, int groupsBehind) {
        long rest = script;
        for (int i = 0; i < groupsBehind; i++) {
            rest /= COMMAND_RANGE;
        }
        return (int) (rest % COMMAND_RANGE);
    }

    private boolean runCommand(int group) {
        int second = group / 10000 % 10;
        int fourth = group / 100 % 10;
        int e = group / 1000 % 100;
        switch (group / 100000) {
            case 1: return tryCopy(second, group % 10000);
            case 2: return tryOffer(second, group % 10000);
            case 3: return group % 100 == 0 && tryPaste(e, fourth);
            case 4: return group % 1000 == 0 && tryTogglePin(e);
            case 5: return group % 1000 == 0 && tryRemove(e);
            case 6: return trial.usedSize() <= group % 100000;
            case 7: return trial.count == group % 100000;
            case 8: return group % 100 == 0 && trial.hasEntry(e) && trial.entries[e].holds(fourth);
            default: return false;
        }
    }

    private void runRound(int r) {
        if (r % 3 == 0 || trial.count < 1 || board.places < 1) {
            tryCopy(r / 4 % Math.max(1, board.formats), 1 + r / 64 % 500);
        } else {
            tryPaste(r / 4 % trial.count, r / 64 % board.places);
        }
    }

    private boolean tryCopy(int f, int size) {
        if (!board.hasFormat(f) || !isNewSize(size) || !trial.canAddEntry(size)) {
            return false;
        }
        trial.addEntry(f, size);
        return true;
    }

    private boolean tryOffer(int f, int size) {
        if (!board.hasFormat(f) || !isNewSize(size) || !trial.canAddForm(f, size)) {
            return false;
        }
        trial.addForm(f, size);
        return true;
    }

    private boolean tryPaste(int e, int p) {
        if (!trial.hasEntry(e) || !board.hasPlace(p) || !findWay(trial, e, p)) {
            return false;
        }
        trial.useEntry(e, foundWay);
        return true;
    }

    private boolean tryTogglePin(int e) {
        if (!trial.hasEntry(e)) {
            return false;
        }
        trial.switchPin(e);
        return true;
    }

    private boolean tryRemove(int e) {
        if (!trial.hasEntry(e)) {
            return false;
        }
        trial.dropEntry(e);
        return true;
    }

    /** What a text sets up and no action changes; the costs here are those of the text. */
    private static final class Board {
        final int[] from = new int[MAX_CONVERSIONS];
        final int[] to = new int[MAX_CONVERSIONS];
        final int[] cost = new int[MAX_CONVERSIONS];
        final int[] growth = new int[MAX_CONVERSIONS];
        final int[] loss = new int[MAX_CONVERSIONS];
        final int[] accepted = new int[MAX_PLACES];
        final int[] limit = new int[MAX_PLACES];
        final boolean[] linked = new boolean[MAX_FORMATS * MAX_FORMATS];
        int formats;
        int conversions;
        int places;
        int budget;

        Board() {
            begin(1, FIRST_BUDGET);
        }

        void begin(int formatCount, int firstBudget) {
            formats = Math.max(1, Math.min(formatCount, MAX_FORMATS));
            budget = firstBudget;
            conversions = 0;
            places = 0;
            for (int i = 0; i < linked.length; i++) {
                linked[i] = false;
            }
        }

        boolean hasFormat(int f) {
            return f >= 0 && f < formats;
        }

        boolean hasPlace(int p) {
            return p >= 0 && p < places;
        }

        boolean canAddConversion() {
            return conversions < MAX_CONVERSIONS && conversions < formats * (formats - 1);
        }

        boolean canAddConversionFrom(int a) {
            for (int b = 0; b < formats; b++) {
                if (canLink(a, b)) {
                    return true;
                }
            }
            return false;
        }

        boolean canLink(int a, int b) {
            return hasFormat(a) && hasFormat(b) && a != b && !linked[a * MAX_FORMATS + b];
        }

        void addConversion(int a, int b, int itsCost, int itsGrowth, int itsLoss) {
            if (!canAddConversion() || !canLink(a, b)) {
                return;
            }
            from[conversions] = a;
            to[conversions] = b;
            cost[conversions] = itsCost;
            growth[conversions] = itsGrowth;
            loss[conversions] = itsLoss;
            linked[a * MAX_FORMATS + b] = true;
            conversions++;
        }

        boolean canAddPlace() {
            return places < MAX_PLACES;
        }

        void addPlace(int formatSet, int itsLimit) {
            if (!canAddPlace()) {
                return;
            }
            accepted[places] = formatSet;
            limit[places] = itsLimit;
            places++;
        }

        int sizeAfterStep(int c, int size) {
            int grown = (size * growth[c] + 9) / 10;
            return grown > MAX_SIZE ? MAX_SIZE : grown;
        }
    }

    /** The text and its reader, which stops at the first sign that the rules do not allow. */
    private static final class TextBuffer {
        final int[] signs = new int[MAX_TEXT];
        int length;
        private int position;

        boolean isFull() {
            return length >= MAX_TEXT;
        }

        void addSign(int sign) {
            if (!isFull()) {
                signs[length] = sign;
                length++;
            }
        }

        /** Returns the error position, or NONE if the board then holds what the text says. */
        int readInto(Board board) {
            position = 0;
            boolean allowed = readHead(board);
            for (int i = 0; i < MAX_TEXT && allowed && position < length; i++) {
                allowed = shownSign() == 'c' ? readConversion(board) : readPlace(board);
            }
            return allowed ? NONE : position;
        }

        private boolean readHead(Board board) {
            if (!readSign('K')) {
                return false;
            }
            int formats = readDigit(1, MAX_FORMATS);
            if (formats == ABSENT) {
                return false;
            }
            int budget = readNumber(5);
            if (budget == ABSENT) {
                return false;
            }
            board.begin(formats, budget);
            return true;
        }

        private boolean readConversion(Board board) {
            if (!board.canAddConversion() || !readSign('c')) {
                return false;
            }
            int from = shownDigit();
            if (!board.canAddConversionFrom(from)) {
                return false;
            }
            position++;
            int to = shownDigit();
            if (!board.canLink(from, to)) {
                return false;
            }
            position++;
            int cost = readNumber(2);
            if (cost == ABSENT) {
                return false;
            }
            int growth = readNumber(2);
            if (growth == ABSENT) {
                return false;
            }
            int loss = readDigit(0, 9);
            if (loss == ABSENT) {
                return false;
            }
            board.addConversion(from, to, cost, growth, loss);
            return true;
        }

        private boolean readPlace(Board board) {
            if (!board.canAddPlace() || !readSign('p')) {
                return false;
            }
            int accepted = 0;
            int lowest = 0;
            for (int i = 0; i < MAX_FORMATS; i++) {
                int f = readDigit(lowest, board.formats - 1);
                if (f == ABSENT) {
                    break;
                }
                accepted |= 1 << f;
                lowest = f + 1;
            }
            if (accepted == 0 || !readSign(':')) {
                return false;
            }
            int limit = readNumber(5);
            if (limit == ABSENT) {
                return false;
            }
            board.addPlace(accepted, limit);
            return true;
        }

        private boolean readSign(int sign) {
            if (shownSign() != sign) {
                return false;
            }
            position++;
            return true;
        }

        private int readDigit(int least, int most) {
            int digit = shownDigit();
            if (digit == ABSENT || digit < least || digit > most) {
                return ABSENT;
            }
            position++;
            return digit;
        }

        /** No number of the text may be 0, and it is the last digit that makes it 0. */
        private int readNumber(int digits) {
            int value = 0;
            for (int i = 0; i < digits; i++) {
                boolean wouldBeZero = i == digits - 1 && value == 0;
                int digit = readDigit(wouldBeZero ? 1 : 0, 9);
                if (digit == ABSENT) {
                    return ABSENT;
                }
                value = value * 10 + digit;
            }
            return value;
        }

        private int shownDigit() {
            int sign = shownSign();
            return sign >= '0' && sign <= '9' ? sign - '0' : ABSENT;
        }

        private int shownSign() {
            return position >= 0 && position < length && position < MAX_TEXT ? signs[position] : ABSENT;
        }
    }

    /** The best paths between all formats, each held by its first step. */
    private static final class Paths {
        /** Far above every rank, and two of them still add up within an int. */
        private static final int UNREACHED = 1000000;
        /** A path has fewer steps than this, so cost * STEP_RANGE + steps orders by cost, then by steps. */
        private static final int STEP_RANGE = 8;

        private final int[][] direct = new int[MAX_FORMATS][MAX_FORMATS];
        private final int[][] directStep = new int[MAX_FORMATS][MAX_FORMATS];
        private final int[][] rank = new int[MAX_FORMATS][MAX_FORMATS];
        private final int[][] firstStep = new int[MAX_FORMATS][MAX_FORMATS];

        void find(Board board, int[] costs, int skipped) {
            clearSteps();
            for (int c = 0; c < board.conversions && c < costs.length; c++) {
                if (c != skipped) {
                    int a = board.from[c];
                    int b = board.to[c];
                    direct[a][b] = costs[c] * STEP_RANGE + 1;
                    directStep[a][b] = c;
                    rank[a][b] = direct[a][b];
                }
            }
            for (int via = 0; via < MAX_FORMATS; via++) {
                shortenBy(via);
            }
            chooseFirstSteps();
        }

        private void clearSteps() {
            for (int a = 0; a < MAX_FORMATS; a++) {
                for (int b = 0; b < MAX_FORMATS; b++) {
                    direct[a][b] = UNREACHED;
                    directStep[a][b] = ABSENT;
                    rank[a][b] = a == b ? 0 : UNREACHED;
                    firstStep[a][b] = ABSENT;
                }
            }
        }

        private void shortenBy(int via) {
            for (int a = 0; a < MAX_FORMATS; a++) {
                for (int b = 0; b < MAX_FORMATS; b++) {
                    rank[a][b] = Math.min(rank[a][b], rank[a][via] + rank[via][b]);
                }
            }
        }

        private void chooseFirstSteps() {
            for (int a = 0; a < MAX_FORMATS; a++) {
                for (int b = 0; b < MAX_FORMATS; b++) {
                    if (a != b && connects(a, b)) {
                        firstStep[a][b] = lowestFirstStep(a, b);
                    }
                }
            }
        }

        /** Going to the lowest format that keeps the rank makes the path the smallest lexicographically. */
        private int lowestFirstStep(int a, int b) {
            for (int next = 0; next < MAX_FORMATS; next++) {
                if (direct[a][next] + rank[next][b] == rank[a][b]) {
                    return directStep[a][next];
                }
            }
            return ABSENT;
        }

        boolean connects(int a, int b) {
            return rank[a][b] < UNREACHED;
        }

        int costOf(int a, int b) {
            return connects(a, b) ? rank[a][b] / STEP_RANGE : NONE;
        }

        int stepsOf(int a, int b) {
            return connects(a, b) ? rank[a][b] % STEP_RANGE : NONE;
        }

        int lossOf(int a, int b, Board board) {
            int sum = 0;
            int at = a;
            for (int i = 0; i < MAX_FORMATS && at != b; i++) {
                int c = firstStep[at][b];
                if (c == ABSENT) {
                    return NONE;
                }
                sum += board.loss[c];
                at = board.to[c];
            }
            return sum;
        }

        int sizeAtEnd(int a, int b, int size, Board board) {
            int result = size;
            int at = a;
            for (int i = 0; i < MAX_FORMATS && at != b; i++) {
                int c = firstStep[at][b];
                if (c == ABSENT) {
                    return NONE;
                }
                result = board.sizeAfterStep(c, result);
                at = board.to[c];
            }
            return result;
        }

        int formatAt(int a, int b, int index, Board board) {
            if (!connects(a, b)) {
                return NONE;
            }
            int at = a;
            for (int i = 0; i < MAX_FORMATS && i < index; i++) {
                int c = firstStep[at][b];
                if (c == ABSENT) {
                    return NONE;
                }
                at = board.to[c];
            }
            return at;
        }

        boolean passes(int a, int b, int f, Board board) {
            for (int i = 0; i < MAX_FORMATS; i++) {
                if (formatAt(a, b, i, board) == f) {
                    return true;
                }
            }
            return false;
        }

        /** The rest of a best path is a best path, so each step of one is the first step of another. */
        int usedConversions(Board board) {
            int set = 0;
            for (int a = 0; a < board.formats; a++) {
                for (int b = 0; b < board.formats; b++) {
                    if (firstStep[a][b] != ABSENT) {
                        set |= 1 << firstStep[a][b];
                    }
                }
            }
            return set;
        }

        int rankOf(int a, int b) {
            return rank[a][b];
        }
    }

    /** The way of an entry into a place, as the last search found it. */
    private static final class Way {
        int cost;
        int begin;
        int end;
        int size;
        int loss;

        boolean search(Entry entry, int p, Board board, Paths paths) {
            int best = Paths.UNREACHED;
            // In this order the first of several ways has the lowest end, and then the lowest beginning.
            for (int b = 0; b < board.formats; b++) {
                for (int a = 0; a < board.formats; a++) {
                    if ((board.accepted[p] >> b & 1) == 1 && entry.holds(a) && paths.rankOf(a, b) < best
                            && paths.sizeAtEnd(a, b, entry.sizes[a], board) <= board.limit[p]) {
                        best = paths.rankOf(a, b);
                        begin = a;
                        end = b;
                    }
                }
            }
            if (best == Paths.UNREACHED) {
                return false;
            }
            cost = paths.costOf(begin, end);
            size = paths.sizeAtEnd(begin, end, entry.sizes[begin], board);
            loss = entry.losses[begin] + paths.lossOf(begin, end, board);
            return true;
        }
    }

    private static final class Entry {
        final int[] sizes = new int[MAX_FORMATS];
        final int[] losses = new int[MAX_FORMATS];
        int forms;
        int derived;
        int size;
        boolean pinned;
        int uses;
        int lastUse;
        /** The entry's number before a trial, by which it is known in it; no part of the state. */
        int tag;

        void begin(int f, int formSize, int time) {
            forms = 0;
            derived = 0;
            size = 0;
            pinned = false;
            uses = 0;
            lastUse = time;
            tag = ABSENT;
            putForm(f, formSize, 0, false);
        }

        void takeOver(Entry other) {
            System.arraycopy(other.sizes, 0, sizes, 0, MAX_FORMATS);
            System.arraycopy(other.losses, 0, losses, 0, MAX_FORMATS);
            forms = other.forms;
            derived = other.derived;
            size = other.size;
            pinned = other.pinned;
            uses = other.uses;
            lastUse = other.lastUse;
        }

        /** Only for a format in which the entry has no form, so that the size stays the sum. */
        void putForm(int f, int formSize, int loss, boolean isDerived) {
            if (f < 0 || f >= MAX_FORMATS || holds(f)) {
                return;
            }
            sizes[f] = formSize;
            losses[f] = loss;
            size += formSize;
            forms |= 1 << f;
            if (isDerived) {
                derived |= 1 << f;
            }
        }

        void dropForm(int f) {
            if (!holds(f)) {
                return;
            }
            size -= sizes[f];
            forms &= ~(1 << f);
            derived &= ~(1 << f);
        }

        boolean holds(int f) {
            return f >= 0 && f < MAX_FORMATS && (forms >> f & 1) == 1;
        }

        boolean holdsDerived(int f) {
            return f >= 0 && f < MAX_FORMATS && (derived >> f & 1) == 1;
        }

        int originalSize() {
            int sum = size;
            for (int f = 0; f < MAX_FORMATS; f++) {
                if (holdsDerived(f)) {
                    sum -= sizes[f];
                }
            }
            return sum;
        }

        int weight(int time) {
            long age = time - lastUse + 1;
            long weight = size * age / Math.max(1, uses + 1);
            return weight > MAX_WEIGHT ? MAX_WEIGHT : (int) weight;
        }

        /** The lowest one where several are the largest. */
        int largestDerived() {
            int largest = ABSENT;
            for (int f = 0; f < MAX_FORMATS; f++) {
                if (holdsDerived(f) && (largest == ABSENT || sizes[f] > sizes[largest])) {
                    largest = f;
                }
            }
            return largest;
        }
    }

    /** What actions change and undo brings back: entries, time, total cost, budget and costs. */
    private static final class State {
        /** Making room removes at most every form and every entry. */
        private static final int MAX_REMOVALS = MAX_ENTRIES * MAX_FORMATS + MAX_ENTRIES;

        /** The first ones, as many as count says, are in use; the others wait to be used again. */
        final Entry[] entries = new Entry[MAX_ENTRIES];
        final int[] costs = new int[MAX_CONVERSIONS];
        int count;
        int time;
        int totalCost;
        int budget;

        State() {
            for (int i = 0; i < entries.length; i++) {
                entries[i] = new Entry();
            }
        }

        void begin(Board board) {
            count = 0;
            time = 0;
            totalCost = 0;
            budget = board.budget;
            System.arraycopy(board.cost, 0, costs, 0, MAX_CONVERSIONS);
        }

        void takeOver(State other) {
            count = other.count;
            time = other.time;
            totalCost = other.totalCost;
            budget = other.budget;
            System.arraycopy(other.costs, 0, costs, 0, MAX_CONVERSIONS);
            for (int i = 0; i < count; i++) {
                entries[i].takeOver(other.entries[i]);
            }
        }

        boolean hasEntry(int e) {
            return e >= 0 && e < count;
        }

        boolean isFull() {
            return count >= MAX_ENTRIES;
        }

        int usedSize() {
            int sum = 0;
            for (int i = 0; i < count; i++) {
                sum += entries[i].size;
            }
            return sum;
        }

        int pinnedCount() {
            int pinned = 0;
            for (int i = 0; i < count; i++) {
                if (entries[i].pinned) {
                    pinned++;
                }
            }
            return pinned;
        }

        void switchPin(int e) {
            if (hasEntry(e)) {
                entries[e].pinned = !entries[e].pinned;
            }
        }

        /** The used size that is left when making room without touching an entry has removed all it can. */
        int leastSize(int untouched, boolean keepEntries) {
            int sum = 0;
            for (int i = 0; i < count; i++) {
                if (i == untouched) {
                    sum += entries[i].size;
                } else if (keepEntries || entries[i].pinned) {
                    sum += entries[i].originalSize();
                }
            }
            return sum;
        }

        boolean canAddEntry(int size) {
            boolean hasNumber = !isFull() || pinnedCount() < count;
            return hasNumber && leastSize(ABSENT, false) + size <= budget;
        }

        void addEntry(int f, int size) {
            time++;
            if (isFull()) {
                dropEntry(heaviest(ABSENT));
            }
            makeRoom(size, ABSENT);
            if (isFull()) {
                return;
            }
            entries[count].begin(f, size, time);
            count++;
            moveToFront(count - 1);
        }

        boolean canAddForm(int f, int size) {
            if (count < 1) {
                return false;
            }
            Entry newest = entries[0];
            if (newest.holds(f) && !newest.holdsDerived(f)) {
                return false;
            }
            int freed = newest.holdsDerived(f) ? newest.sizes[f] : 0;
            return leastSize(0, false) - freed + size <= budget;
        }

        void addForm(int f, int size) {
            if (count < 1) {
                return;
            }
            time++;
            entries[0].dropForm(f);
            makeRoom(size, 0);
            entries[0].putForm(f, size, 0, false);
        }

        void useEntry(int e, Way way) {
            if (!hasEntry(e)) {
                return;
            }
            Entry used = entries[e];
            time++;
            totalCost += way.cost;
            used.uses++;
            used.lastUse = time;
            if (!used.holds(way.end) && leastSize(e, true) + way.size <= budget) {
                makeRoom(way.size, e);
                used.putForm(way.end, way.size, way.loss, true);
            }
            moveToFront(e);
        }

        /**
         * The caller has seen by leastSize that room can be made, so this cannot stop halfway. Where entries
         * may go, the untouched one is entry 0 or none, so that its number stays.
         */
        void makeRoom(int size, int untouched) {
            for (int i = 0; i < MAX_REMOVALS && usedSize() + size > budget; i++) {
                if (!dropLargestDerived(untouched)) {
                    dropEntry(heaviest(untouched));
                }
            }
        }

        private boolean dropLargestDerived(int untouched) {
            int owner = ABSENT;
            int largest = 0;
            for (int i = 0; i < count; i++) {
                int f = entries[i].largestDerived();
                if (i != untouched && f != ABSENT && entries[i].sizes[f] >= largest) {
                    owner = i;
                    largest = entries[i].sizes[f];
                }
            }
            if (owner == ABSENT) {
                return false;
            }
            entries[owner].dropForm(entries[owner].largestDerived());
            return true;
        }

        /** The heaviest entry that may be removed, the last one where several are the heaviest. */
        private int heaviest(int untouched) {
            int found = ABSENT;
            int greatest = 0;
            for (int i = 0; i < count; i++) {
                int weight = entries[i].weight(time);
                if (i != untouched && !entries[i].pinned && weight >= greatest) {
                    found = i;
                    greatest = weight;
                }
            }
            return found;
        }

        /** How many entries rank before an entry, by weight and then by number. */
        int rankOf(int e) {
            int before = 0;
            for (int i = 0; i < count; i++) {
                int more = entries[i].weight(time) - entries[e].weight(time);
                if (more > 0 || (more == 0 && i > e)) {
                    before++;
                }
            }
            return before;
        }

        void dropEntry(int e) {
            if (!hasEntry(e)) {
                return;
            }
            Entry dropped = entries[e];
            for (int i = e + 1; i < count; i++) {
                entries[i - 1] = entries[i];
            }
            entries[count - 1] = dropped;
            count--;
        }

        private void moveToFront(int e) {
            if (!hasEntry(e)) {
                return;
            }
            Entry moved = entries[e];
            for (int i = e; i > 0; i--) {
                entries[i] = entries[i - 1];
            }
            entries[0] = moved;
        }

        void tagEntries() {
            for (int i = 0; i < count; i++) {
                entries[i].tag = i;
            }
        }

        int tagSet() {
            int set = 0;
            for (int i = 0; i < count; i++) {
                if (entries[i].tag != ABSENT) {
                    set |= 1 << entries[i].tag;
                }
            }
            return set;
        }
    }
}
