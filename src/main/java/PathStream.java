/** A streaming evaluator of path queries on a document whose elements are opened and closed one by one. */
public final class PathStream {
    public static final int UNKNOWN = -1, BAD = -2, LATE = -3, FULL = -4, NONE = -9;

    private static final int MOST_ELEMENTS = 20;
    private static final int MOST_DEPTH = 8;
    private static final int MOST_PATHS = 5;
    private static final int MOST_STEPS = 4;
    private static final int MOST_TEXT = 99;
    private static final int MOST_ACTIONS = 14;
    private static final int MOST_OBSERVATIONS = 6;
    private static final int MOST_STATEMENTS = 4;
    private static final int MOST_DRAWN = 30;
    private static final int SLOTS = 2;
    private static final int NAMES = 5;
    private static final int ANY_NAME = 5;
    private static final int FIGURES = 10;
    private static final int CONDITIONS = 16;

    private final State now = new State();
    /** What a call only tries out happens here, so that the present state stays as it is. */
    private final State trial = new State();
    private final State[] before = new State[MOST_ACTIONS];
    private final State[] slots = new State[SLOTS];
    private final boolean[] slotHolds = new boolean[SLOTS];
    private final Matcher matcher = new Matcher();
    private final TaskReader reader = new TaskReader();
    private final char[] text = new char[MOST_TEXT];
    private final int[] seenPaths = new int[MOST_OBSERVATIONS];
    private final int[] seenCounts = new int[MOST_OBSERVATIONS];
    private final int[] parts = new int[MOST_STEPS];
    private final int[] answerSets = new int[MOST_PATHS];
    private int textLength;
    private int actions;
    private int nextAction;
    private int observations;
    private long random;

    public PathStream() {
        for (int i = 0; i < MOST_ACTIONS; i++) {
            before[i] = new State();
        }
        for (int i = 0; i < SLOTS; i++) {
            slots[i] = new State();
        }
    }

    // ---- the task

    public int write(int letter) {
        if (letter < 0 || letter > 255) {
            return BAD;
        }
        if (textLength >= MOST_TEXT) {
            return FULL;
        }
        text[textLength] = (char) letter;
        textLength++;
        return textLength;
    }

    public int wipe() {
        int length = textLength;
        textLength = 0;
        return length;
    }

    public int fault() {
        return readTask(false);
    }

    public int task() {
        if (readTask(true) != NONE) {
            return LATE;
        }
        now.copyFrom(trial);
        forgetActions();
        for (int i = 0; i < SLOTS; i++) {
            slotHolds[i] = false;
        }
        return now.pathCount;
    }

    public int about(int what) {
        switch (what) {
            case 0: return now.pathCount;
            case 1: return now.elements.count;
            case 2: return now.elements.current;
            case 3: return now.elements.currentDepth();
            case 4: return now.elements.clock;
            case 5: return now.differentPrefixes();
            case 6: return actions;
            case 7: return observations;
            case 8: return textLength;
            default: return BAD;
        }
    }

    public int element(int element, int what) {
        if (!isElement(element)) {
            return UNKNOWN;
        }
        Elements elements = now.elements;
        switch (what) {
            case 0: return elements.names[element];
            case 1: return elements.parents[element];
            case 2: return elements.depths[element];
            case 3: return elements.openSet >> element & 1;
            case 4: return elements.digitSets[element];
            case 5: return elements.childNames[element];
            default: return BAD;
        }
    }

    public int path(int path, int what) {
        if (!isPath(path)) {
            return UNKNOWN;
        }
        if (what < 0 || what > 6) {
            return BAD;
        }
        return pathNumber(now, path, what);
    }

    public int step(int path, int step) {
        if (!isPath(path) || step < 0 || step >= now.paths[path].stepCount) {
            return UNKNOWN;
        }
        return now.paths[path].steps[step];
    }

    public int is(int path, int element) {
        if (!isPath(path) || !isElement(element)) {
            return UNKNOWN;
        }
        matcher.match(now.elements, now.paths[path]);
        if ((matcher.answers >> element & 1) != 0) {
            return 2;
        }
        return matcher.doubts >> element & 1;
    }

    public int ends(int path, int element) {
        if (!isPath(path) || !isElement(element)) {
            return UNKNOWN;
        }
        matcher.match(now.elements, now.paths[path]);
        return matcher.sure[element];
    }

    public int out(int path, int i, boolean when) {
        if (!isPath(path)) {
            return UNKNOWN;
        }
        Path asked = now.paths[path];
        if (i < 0 || i >= asked.outCount) {
            return NONE;
        }
        return when ? asked.outTimes[i] : asked.outElements[i];
    }

    // ---- acts

    public int open(int name) {
        if (name < 0 || name >= NAMES) {
            return BAD;
        }
        int refusal = now.elements.openRefusal();
        if (refusal != NONE) {
            return refusal;
        }
        recordAction();
        now.elements.enter(name);
        now.emitAll(matcher);
        return now.elements.current;
    }

    public int close() {
        if (now.elements.current < 0) {
            return LATE;
        }
        recordAction();
        now.elements.leave();
        return now.emitAll(matcher);
    }

    public int tell(int figure) {
        if (figure < 0 || figure >= FIGURES) {
            return BAD;
        }
        if (now.elements.current < 0) {
            return LATE;
        }
        recordAction();
        now.elements.hold(figure);
        return now.emitAll(matcher);
    }

    public int ask(int n, long steps) {
        if (n < 1 || n > MOST_STEPS || !splits(steps, 10000, n) || !partsAreSteps(n)) {
            return BAD;
        }
        if (now.pathCount >= MOST_PATHS) {
            return FULL;
        }
        recordAction();
        int added = now.pathCount;
        now.addPath(parts, n);
        now.emitOne(added, matcher);
        return added;
    }

    public int drop() {
        if (now.pathCount <= 0) {
            return LATE;
        }
        recordAction();
        now.pathCount--;
        return now.pathCount;
    }

    public int undo() {
        if (actions <= 0) {
            return LATE;
        }
        nextAction = nextAction > 0 ? nextAction - 1 : MOST_ACTIONS - 1;
        now.copyFrom(before[nextAction]);
        actions--;
        return actions;
    }

    // ---- asked

    public int within(int one, int other) {
        if (!isPath(one) || !isPath(other)) {
            return UNKNOWN;
        }
        int inner = answersOf(now, one);
        int outer = answersOf(now, other);
        return (inner & ~outer) == 0 ? 1 : 0;
    }

    public int judge(int n, long row) {
        if (n < 1 || n > MOST_STATEMENTS || !splits(row, 1000, n)) {
            return BAD;
        }
        trial.copyFrom(now);
        for (int i = 0; i < n; i++) {
            if (!comesTrue(parts[i] / 100, parts[i] / 10 % 10, parts[i] % 10)) {
                return i;
            }
        }
        return NONE;
    }

    // ---- seen

    public int see(int path, int v) {
        if (!isPath(path)) {
            return UNKNOWN;
        }
        if (v < 0 || v > MOST_ELEMENTS) {
            return BAD;
        }
        if (observations >= MOST_OBSERVATIONS) {
            return FULL;
        }
        seenPaths[observations] = path;
        seenCounts[observations] = v;
        observations++;
        return observations;
    }

    public int unsee() {
        int count = observations;
        observations = 0;
        return count;
    }

    public int which() {
        int tests = 0;
        for (int test = 0; test <= ANY_NAME; test++) {
            if (agreesWithAll(test)) {
                tests |= 1 << test;
            }
        }
        return tests;
    }

    // ---- shares, chances

    /**
     * In every order, an element counts for the first of the paths that answer it, and each of these is
     * equally often the first: so each gets an equal part of the element, counted here in sixtieths.
     */
    public int share(int path, boolean upper) {
        if (!isPath(path)) {
            return UNKNOWN;
        }
        findAnswerSets();
        int sixtieths = 0;
        for (int e = 0; e < now.elements.count; e++) {
            int sharers = pathsAnswering(e);
            if ((answerSets[path] >> e & 1) != 0 && sharers > 0) {
                sixtieths += 60 / sharers;
            }
        }
        return inLowestTerms(sixtieths, 60, upper);
    }

    public int chance(int v, int x, boolean upper) {
        if (v < 0 || v > MOST_ELEMENTS || x < 0 || x > 10) {
            return BAD;
        }
        findAnswerSets();
        int favourable = 0;
        int all = 0;
        for (int remaining = 0; remaining < 1 << now.pathCount; remaining++) {
            int weight = weightOf(remaining, x);
            all += weight;
            if (Integer.bitCount(answersOfAny(remaining)) >= v) {
                favourable += weight;
            }
        }
        return inLowestTerms(favourable, all, upper);
    }

    public long seed(long v) {
        long previous = random;
        random = v;
        return previous;
    }

    public int drawn(int m) {
        if (m < 1 || m > MOST_DRAWN) {
            return BAD;
        }
        trial.copyFrom(now);
        for (int i = 0; i < m; i++) {
            drawEvent(trial.elements);
        }
        int sum = 0;
        for (int p = 0; p < trial.pathCount; p++) {
            sum += Integer.bitCount(answersOf(trial, p));
        }
        return sum;
    }

    // ---- slots

    public int keep(int slot) {
        if (slot < 0 || slot >= SLOTS) {
            return UNKNOWN;
        }
        slots[slot].copyFrom(now);
        slotHolds[slot] = true;
        return now.elements.clock;
    }

    public int again(int slot) {
        if (slot < 0 || slot >= SLOTS) {
            return UNKNOWN;
        }
        if (!slotHolds[slot]) {
            return LATE;
        }
        now.copyFrom(slots[slot]);
        forgetActions();
        return now.elements.clock;
    }

    // ---- what several methods need

    private boolean isElement(int element) {
        return element >= 0 && element < now.elements.count;
    }

    private boolean isPath(int path) {
        return path >= 0 && path < now.pathCount;
    }

    /** Only an event moves the clock, so its move tells that emitting is due. */
    private int readTask(boolean emitting) {
        trial.clear();
        reader.begin();
        for (int i = 0; i < textLength; i++) {
            int clock = trial.elements.clock;
            if (!reader.takes(text[i], trial)) {
                return i;
            }
            if (emitting && trial.elements.clock != clock) {
                trial.emitAll(matcher);
            }
        }
        return reader.mayEnd() ? NONE : textLength;
    }

    private void recordAction() {
        before[nextAction].copyFrom(now);
        nextAction = nextAction < MOST_ACTIONS - 1 ? nextAction + 1 : 0;
        if (actions < MOST_ACTIONS) {
            actions++;
        }
    }

    private void forgetActions() {
        actions = 0;
    }

    private int answersOf(State state, int p) {
        matcher.match(state.elements, state.paths[p]);
        return matcher.answers;
    }

    private int pathNumber(State state, int p, int what) {
        Path path = state.paths[p];
        matcher.match(state.elements, path);
        switch (what) {
            case 0: return path.stepCount;
            case 2: return path.outCount;
            case 3: return path.bufferSize(matcher);
            case 4: return path.peak;
            case 5: return Integer.bitCount(matcher.doubts);
            // Closing fulfils no condition and ends all doubt: what is an answer now, and no more, is emitted.
            default: return Integer.bitCount(matcher.answers);
        }
    }

    /** Puts the n parts of a decimal number into the row of parts; false if it has more, or is negative. */
    private boolean splits(long number, int base, int n) {
        if (number < 0 || base < 2 || n > parts.length) {
            return false;
        }
        long rest = number;
        for (int i = n - 1; i >= 0; i--) {
            parts[i] = (int) (rest % base);
            rest /= base;
        }
        return rest == 0;
    }

    private boolean partsAreSteps(int n) {
        for (int i = 0; i < n; i++) {
            int axis = parts[i] / 1000;
            int test = parts[i] / 100 % 10;
            int condition = parts[i] % 100;
            if (axis > 1 || test > ANY_NAME || condition >= CONDITIONS) {
                return false;
            }
        }
        return true;
    }

    /** Carries out or checks a statement of judge() on the trial state. */
    private boolean comesTrue(int kind, int second, int third) {
        switch (kind) {
            case 1: return second == 0 && emitsAfter(trial.elements.enter(third));
            case 2: return second == 0 && third == 0 && emitsAfter(trial.elements.leave());
            case 3: return second == 0 && emitsAfter(trial.elements.hold(third));
            case 4: return second < trial.pathCount && pathNumber(trial, second, 1) == third;
            case 5: return second < trial.pathCount && pathNumber(trial, second, 2) == third;
            case 6: return second < trial.pathCount && pathNumber(trial, second, 3) == third;
            case 7: return second == 0 && trial.elements.currentDepth() == third;
            default: return false;
        }
    }

    private boolean emitsAfter(boolean happened) {
        if (happened) {
            trial.emitAll(matcher);
        }
        return happened;
    }

    private boolean agreesWithAll(int test) {
        for (int i = 0; i < observations; i++) {
            int p = seenPaths[i];
            if (isPath(p) && answersWithLastTest(p, test) != seenCounts[i]) {
                return false;
            }
        }
        return true;
    }

    private int answersWithLastTest(int p, int test) {
        Path changed = trial.paths[0];
        changed.copyFrom(now.paths[p]);
        changed.setLastTest(test);
        matcher.match(now.elements, changed);
        return Integer.bitCount(matcher.answers);
    }

    private void findAnswerSets() {
        for (int p = 0; p < now.pathCount; p++) {
            answerSets[p] = answersOf(now, p);
        }
    }

    private int pathsAnswering(int e) {
        int count = 0;
        for (int p = 0; p < now.pathCount; p++) {
            count += answerSets[p] >> e & 1;
        }
        return count;
    }

    private int answersOfAny(int paths) {
        int union = 0;
        for (int p = 0; p < now.pathCount; p++) {
            if ((paths >> p & 1) != 0) {
                union |= answerSets[p];
            }
        }
        return union;
    }

    /** How likely it is that just these paths remain, in parts of 10 to the power of the number of paths. */
    private int weightOf(int remaining, int x) {
        int weight = 1;
        for (int p = 0; p < now.pathCount; p++) {
            weight *= (remaining >> p & 1) != 0 ? 10 - x : x;
        }
        return weight;
    }

    private static int inLowestTerms(int numerator, int denominator, boolean upper) {
        int divisor = greatestDivisor(numerator, denominator);
        int part = upper ? numerator : denominator;
        return divisor > 0 ? part / divisor : part;
    }

    private static int greatestDivisor(int one, int other) {
        int a = one;
        int b = other;
        for (int i = 0; i < 64 && b != 0; i++) {
            int rest = a % b;
            a = b;
            b = rest;
        }
        return a;
    }

    private void drawEvent(Elements elements) {
        random = random * 6364136223846793005L + 1442695040888963407L;
        int v = (int) (random >>> 33);
        int kind = v % 8;
        if (kind <= 3) {
            elements.enter(v / 8 % NAMES);
        } else if (kind <= 5) {
            elements.leave();
        } else {
            elements.hold(v / 8 % FIGURES);
        }
    }

    /** The elements and the clock. Parents have smaller numbers than their children. */
    private static final class Elements {
        final int[] names = new int[MOST_ELEMENTS];
        final int[] parents = new int[MOST_ELEMENTS];
        final int[] depths = new int[MOST_ELEMENTS];
        final int[] digitSets = new int[MOST_ELEMENTS];
        final int[] childNames = new int[MOST_ELEMENTS];
        int openSet;
        int count;
        int current = NONE;
        int clock;

        void clear() {
            openSet = 0;
            count = 0;
            current = NONE;
            clock = 0;
        }

        void copyFrom(Elements other) {
            System.arraycopy(other.names, 0, names, 0, other.count);
            System.arraycopy(other.parents, 0, parents, 0, other.count);
            System.arraycopy(other.depths, 0, depths, 0, other.count);
            System.arraycopy(other.digitSets, 0, digitSets, 0, other.count);
            System.arraycopy(other.childNames, 0, childNames, 0, other.count);
            openSet = other.openSet;
            count = other.count;
            current = other.current;
            clock = other.clock;
        }

        int currentDepth() {
            return current < 0 ? 0 : depths[current];
        }

        /** The error with which open() refuses now, NONE if an element can be opened. */
        int openRefusal() {
            boolean ended = count > 0 && current < 0;
            if (ended || currentDepth() >= MOST_DEPTH) {
                return LATE;
            }
            return count >= MOST_ELEMENTS ? FULL : NONE;
        }

        /** Each of the three events answers whether it was possible; otherwise it changes nothing. */
        boolean enter(int name) {
            if (name < 0 || name >= NAMES || openRefusal() != NONE) {
                return false;
            }
            if (current >= 0) {
                childNames[current] |= 1 << name;
            }
            names[count] = name;
            parents[count] = current;
            depths[count] = currentDepth() + 1;
            digitSets[count] = 0;
            childNames[count] = 0;
            openSet |= 1 << count;
            current = count;
            count++;
            clock++;
            return true;
        }

        boolean leave() {
            if (current < 0) {
                return false;
            }
            openSet &= ~(1 << current);
            current = parents[current];
            clock++;
            return true;
        }

        boolean hold(int figure) {
            if (figure < 0 || figure >= FIGURES || current < 0) {
                return false;
            }
            digitSets[current] |= 1 << figure;
            clock++;
            return true;
        }

        /** Bit c is set if the element fulfils the condition c, whatever may still come. */
        int fulfilled(int e) {
            return 1 | (childNames[e] << 1) | (digitSets[e] << 6);
        }
    }

    /** A path, with what it has emitted. A step is held as step() answers it. */
    private static final class Path {
        final int[] steps = new int[MOST_STEPS];
        final int[] outElements = new int[MOST_ELEMENTS];
        final int[] outTimes = new int[MOST_ELEMENTS];
        int stepCount;
        int outCount;
        int outSet;
        int peak;

        void begin(int[] row, int n) {
            stepCount = Math.max(0, Math.min(n, Math.min(row.length, MOST_STEPS)));
            System.arraycopy(row, 0, steps, 0, stepCount);
            outCount = 0;
            outSet = 0;
            peak = 0;
        }

        void copyFrom(Path other) {
            System.arraycopy(other.steps, 0, steps, 0, other.stepCount);
            System.arraycopy(other.outElements, 0, outElements, 0, other.outCount);
            System.arraycopy(other.outTimes, 0, outTimes, 0, other.outCount);
            stepCount = other.stepCount;
            outCount = other.outCount;
            outSet = other.outSet;
            peak = other.peak;
        }

        void setLastTest(int test) {
            if (stepCount > 0) {
                int code = steps[stepCount - 1];
                steps[stepCount - 1] = code - code / 100 % 10 * 100 + test * 100;
            }
        }

        boolean beginsLike(Path other, int length) {
            if (stepCount < length || other.stepCount < length) {
                return false;
            }
            for (int i = 0; i < length; i++) {
                if (steps[i] != other.steps[i]) {
                    return false;
                }
            }
            return true;
        }

        int bufferSize(Matcher matched) {
            return Integer.bitCount(matched.doubts | (matched.answers & ~outSet));
        }

        /** Emits what the match allows now, and answers how many that are. */
        int emit(Matcher matched, int clock) {
            int firstDoubt = matched.doubts & -matched.doubts;
            // Without a doubt, firstDoubt is 0, and firstDoubt - 1 has every bit.
            int ready = matched.answers & ~outSet & (firstDoubt - 1);
            int emitted = 0;
            for (int e = 0; e < MOST_ELEMENTS && outCount < MOST_ELEMENTS; e++) {
                if ((ready >> e & 1) != 0) {
                    outElements[outCount] = e;
                    outTimes[outCount] = clock;
                    outCount++;
                    emitted++;
                }
            }
            outSet |= ready;
            peak = Math.max(peak, bufferSize(matched));
            return emitted;
        }
    }

    /** All that undo() and again() bring back. */
    private static final class State {
        final Elements elements = new Elements();
        final Path[] paths = new Path[MOST_PATHS];
        int pathCount;

        State() {
            for (int i = 0; i < MOST_PATHS; i++) {
                paths[i] = new Path();
            }
        }

        void clear() {
            elements.clear();
            pathCount = 0;
        }

        void copyFrom(State other) {
            elements.copyFrom(other.elements);
            pathCount = other.pathCount;
            for (int p = 0; p < pathCount; p++) {
                paths[p].copyFrom(other.paths[p]);
            }
        }

        void addPath(int[] steps, int n) {
            if (pathCount < MOST_PATHS) {
                paths[pathCount].begin(steps, n);
                pathCount++;
            }
        }

        int emitAll(Matcher matcher) {
            int emitted = 0;
            for (int p = 0; p < pathCount; p++) {
                emitted += emitOne(p, matcher);
            }
            return emitted;
        }

        int emitOne(int p, Matcher matcher) {
            matcher.match(elements, paths[p]);
            return paths[p].emit(matcher, elements.clock);
        }

        /** Prefixes of one path differ in length, so only earlier paths can have had the same one. */
        int differentPrefixes() {
            int different = 0;
            for (int p = 0; p < pathCount; p++) {
                for (int length = 1; length <= paths[p].stepCount; length++) {
                    if (!earlierBeginsLike(p, length)) {
                        different++;
                    }
                }
            }
            return different;
        }

        private boolean earlierBeginsLike(int p, int length) {
            for (int earlier = 0; earlier < p; earlier++) {
                if (paths[earlier].beginsLike(paths[p], length)) {
                    return true;
                }
            }
            return false;
        }
    }

    /** Matches a path with all elements. In the sets of an element, bit i - 1 stands for the first i steps. */
    private static final class Matcher {
        final int[] sure = new int[MOST_ELEMENTS];
        final int[] possible = new int[MOST_ELEMENTS];
        /** What the elements around an element match, kept so that no chain of parents must be climbed. */
        final int[] sureAround = new int[MOST_ELEMENTS];
        final int[] possibleAround = new int[MOST_ELEMENTS];
        int answers;
        int doubts;

        void match(Elements elements, Path path) {
            answers = 0;
            doubts = 0;
            for (int e = 0; e < elements.count; e++) {
                lookAround(e, elements.parents[e]);
                matchElement(elements, e, path);
                note(e, path.stepCount);
            }
        }

        private void lookAround(int e, int parent) {
            boolean hasParent = parent >= 0 && parent < e;
            sureAround[e] = hasParent ? sure[parent] | sureAround[parent] : 0;
            possibleAround[e] = hasParent ? possible[parent] | possibleAround[parent] : 0;
        }

        private void matchElement(Elements elements, int e, Path path) {
            int parent = elements.parents[e];
            boolean hasParent = parent >= 0 && parent < e;
            int sureParent = hasParent ? sure[parent] : 0;
            int possibleParent = hasParent ? possible[parent] : 0;
            boolean isOpen = (elements.openSet >> e & 1) != 0;
            int fulfilled = elements.fulfilled(e);
            int sureSet = 0;
            int possibleSet = 0;
            for (int i = 0; i < path.stepCount; i++) {
                int code = path.steps[i];
                int test = code / 100 % 10;
                if (test != ANY_NAME && test != elements.names[e]) {
                    continue;
                }
                boolean deep = code >= 1000;
                boolean fulfils = (fulfilled >> (code % 100) & 1) != 0;
                boolean startsHere = i == 0 && (deep || e == 0);
                int sureBefore = deep ? sureAround[e] : sureParent;
                int possibleBefore = deep ? possibleAround[e] : possibleParent;
                if (fulfils && (startsHere || hasPrefix(sureBefore, i))) {
                    sureSet |= 1 << i;
                }
                if ((fulfils || isOpen) && (startsHere || hasPrefix(possibleBefore, i))) {
                    possibleSet |= 1 << i;
                }
            }
            sure[e] = sureSet;
            possible[e] = possibleSet;
        }

        private static boolean hasPrefix(int set, int length) {
            return length > 0 && (set >> (length - 1) & 1) != 0;
        }

        private void note(int e, int stepCount) {
            if (hasPrefix(sure[e], stepCount)) {
                answers |= 1 << e;
            } else if (hasPrefix(possible[e], stepCount)) {
                doubts |= 1 << e;
            }
        }
    }

    /** Reads a task letter by letter into a state; it never emits. */
    private static final class TaskReader {
        private static final int START = 0;
        private static final int PATHS = 1;
        private static final int EVENTS = 2;
        private static final int FIRST_AXIS = 3;
        private static final int TEST = 4;
        private static final int TESTED = 5;
        private static final int CONDITION = 6;
        private static final int FIGURE = 7;
        private static final int BRACKET = 8;
        private static final int STEP_DONE = 9;
        private static final int NAME = 10;

        private final int[] steps = new int[MOST_STEPS];
        private int stepCount;
        private int phase;

        void begin() {
            phase = START;
            stepCount = 0;
        }

        boolean mayEnd() {
            return phase == PATHS || phase == EVENTS;
        }

        /** Whether a task can go on with this letter; after a false, the reader must begin again. */
        boolean takes(char letter, State into) {
            switch (phase) {
                case START: return goesOn(letter == 'D', PATHS);
                case PATHS: return letter == 'q' ? beginsPath(into) : takesEvent(letter, into.elements);
                case EVENTS: return takesEvent(letter, into.elements);
                case FIRST_AXIS: return takesAxis(letter);
                case TEST: return takesTest(letter);
                case TESTED: return letter == '[' ? goesOn(true, CONDITION) : takesNextStep(letter, into);
                case CONDITION: return letter == '=' ? goesOn(true, FIGURE) : takesChildName(letter);
                case FIGURE: return takesFigure(letter);
                case BRACKET: return goesOn(letter == ']', STEP_DONE);
                case STEP_DONE: return takesNextStep(letter, into);
                case NAME: return goesOn(into.elements.enter(nameOf(letter)), EVENTS);
                default: return false;
            }
        }

        private boolean goesOn(boolean allowed, int next) {
            if (allowed) {
                phase = next;
            }
            return allowed;
        }

        private boolean beginsPath(State into) {
            stepCount = 0;
            return goesOn(into.pathCount < MOST_PATHS, FIRST_AXIS);
        }

        private boolean takesEvent(char letter, Elements elements) {
            if (letter == '(') {
                return goesOn(elements.openRefusal() == NONE, NAME);
            }
            if (letter == ')') {
                return goesOn(elements.leave(), EVENTS);
            }
            return goesOn(elements.hold(figureOf(letter)), EVENTS);
        }

        private boolean takesAxis(char letter) {
            boolean isAxis = letter == '/' || letter == '!';
            if (!isAxis || stepCount >= MOST_STEPS) {
                return false;
            }
            steps[stepCount] = letter == '!' ? 1000 : 0;
            stepCount++;
            return goesOn(true, TEST);
        }

        private boolean takesTest(char letter) {
            int test = letter == '*' ? ANY_NAME : nameOf(letter);
            return addsToStep(test >= 0, test * 100, TESTED);
        }

        private boolean takesChildName(char letter) {
            int name = nameOf(letter);
            return addsToStep(name >= 0, 1 + name, BRACKET);
        }

        private boolean takesFigure(char letter) {
            int figure = figureOf(letter);
            return addsToStep(figure >= 0, 6 + figure, BRACKET);
        }

        private boolean addsToStep(boolean allowed, int amount, int next) {
            if (allowed && stepCount > 0) {
                steps[stepCount - 1] += amount;
            }
            return goesOn(allowed, next);
        }

        private boolean takesNextStep(char letter, State into) {
            if (letter != '.') {
                return takesAxis(letter);
            }
            into.addPath(steps, stepCount);
            return goesOn(true, PATHS);
        }

        private static int nameOf(char letter) {
            return letter >= 'a' && letter <= 'e' ? letter - 'a' : NONE;
        }

        private static int figureOf(char letter) {
            return letter >= '0' && letter <= '9' ? letter - '0' : NONE;
        }
    }
}
