import java.math.BigInteger;
import java.util.ArrayList;
import java.util.Arrays;
import java.util.HashSet;
import java.util.List;
import java.util.Random;
import java.util.Set;
import java.util.TreeSet;
import java.util.regex.Matcher;
import java.util.regex.Pattern;

/**
 * Random runs of calls, answered both by PathStream and by a slow model that follows the document's words:
 * it climbs parents, walks through all orders of paths, and really closes what path(.., 6) supposes closed.
 */
public final class DifferentialTest {
    private static final int UNKNOWN = -1, BAD = -2, LATE = -3, FULL = -4, NONE = -9;
    private static final int RUNS = 2500;
    private static final int CALLS = 512;

    static final class Element {
        int name;
        Element parent;
        int number;
        boolean open = true;
        Set<Integer> digits = new TreeSet<>();
        List<Element> children = new ArrayList<>();

        int depth() {
            return parent == null ? 1 : parent.depth() + 1;
        }
    }

    static final class Query {
        List<int[]> steps = new ArrayList<>();
        List<int[]> emitted = new ArrayList<>();
        int peak = 0;

        boolean hasEmitted(Element e) {
            return emitted.stream().anyMatch(pair -> pair[0] == e.number);
        }
    }

    /** Elements, clock and paths. */
    static final class World {
        List<Element> elements = new ArrayList<>();
        List<Query> queries = new ArrayList<>();
        int clock = 0;

        World copy() {
            World w = new World();
            w.clock = clock;
            for (Element e : elements) {
                Element c = new Element();
                c.name = e.name;
                c.number = e.number;
                c.open = e.open;
                c.digits.addAll(e.digits);
                if (e.parent != null) {
                    c.parent = w.elements.get(e.parent.number);
                    c.parent.children.add(c);
                }
                w.elements.add(c);
            }
            for (Query q : queries) {
                Query c = new Query();
                c.steps.addAll(q.steps);
                c.emitted.addAll(q.emitted);
                c.peak = q.peak;
                w.queries.add(c);
            }
            return w;
        }

        Element current() {
            Element found = null;
            for (Element e : elements) {
                found = e.open ? e : found;
            }
            return found;
        }

        boolean fulfils(Element e, int condition, boolean possibly) {
            if (condition == 0 || possibly && e.open) {
                return true;
            }
            if (condition <= 5) {
                return e.children.stream().anyMatch(c -> c.name == condition - 1);
            }
            return e.digits.contains(condition - 6);
        }

        boolean matches(Element e, List<int[]> steps, int i, boolean possibly) {
            int[] step = steps.get(i - 1);
            if (step[1] != 5 && step[1] != e.name || !fulfils(e, step[2], possibly)) {
                return false;
            }
            if (i == 1) {
                return step[0] == 1 || e.number == 0;
            }
            if (step[0] == 0) {
                return e.parent != null && matches(e.parent, steps, i - 1, possibly);
            }
            for (Element around = e.parent; around != null; around = around.parent) {
                if (matches(around, steps, i - 1, possibly)) {
                    return true;
                }
            }
            return false;
        }

        boolean isAnswer(Query q, Element e) {
            return matches(e, q.steps, q.steps.size(), false);
        }

        boolean inDoubt(Query q, Element e) {
            return !isAnswer(q, e) && matches(e, q.steps, q.steps.size(), true);
        }

        int answers(Query q) {
            return (int) elements.stream().filter(e -> isAnswer(q, e)).count();
        }

        int doubts(Query q) {
            return (int) elements.stream().filter(e -> inDoubt(q, e)).count();
        }

        int buffer(Query q) {
            return doubts(q) + (int) elements.stream().filter(e -> isAnswer(q, e) && !q.hasEmitted(e)).count();
        }

        int emit(Query q) {
            int count = 0;
            for (Element e : elements) {
                if (inDoubt(q, e)) {
                    break;
                }
                if (isAnswer(q, e) && !q.hasEmitted(e)) {
                    q.emitted.add(new int[] {e.number, clock});
                    count++;
                }
            }
            q.peak = Math.max(q.peak, buffer(q));
            return count;
        }

        int afterEvent() {
            clock++;
            int count = 0;
            for (Query q : queries) {
                count += emit(q);
            }
            return count;
        }

        int openError() {
            if (!elements.isEmpty() && !elements.get(0).open || current() != null && current().depth() == 8) {
                return LATE;
            }
            return elements.size() == 20 ? FULL : 0;
        }

        int open(int name) {
            Element e = new Element();
            e.name = name;
            e.number = elements.size();
            e.parent = current();
            if (e.parent != null) {
                e.parent.children.add(e);
            }
            elements.add(e);
            afterEvent();
            return e.number;
        }

        int close() {
            current().open = false;
            return afterEvent();
        }

        int tell(int figure) {
            current().digits.add(figure);
            return afterEvent();
        }

        int add(Query q) {
            queries.add(q);
            emit(q);
            return queries.size() - 1;
        }
    }

    /** The object as the document describes it. */
    static final class Model {
        private static final Pattern TASK = Pattern.compile(
            "D((?:q(?:[/!][a-e*](?:\\[(?:[a-e]|=[0-9])\\])?){1,4}\\.){0,5})((?:\\([a-e]|\\)|[0-9])*)");
        private static final Pattern STEP = Pattern.compile("([/!])([a-e*])(?:\\[([a-e]|=[0-9])\\])?");
        private static final String[] COMPLETIONS =
            {"", "D", "/a.", "a.", ".", "a].", "1].", "].", "a"};

        World world = new World();
        List<World> recorded = new ArrayList<>();
        World[] slots = new World[2];
        StringBuilder text = new StringBuilder();
        List<int[]> observations = new ArrayList<>();
        long random = 0;

        int write(int letter) {
            if (letter < 0 || letter > 255) {
                return BAD;
            }
            if (text.length() == 99) {
                return FULL;
            }
            text.append((char) letter);
            return text.length();
        }

        int wipe() {
            int length = text.length();
            text.setLength(0);
            return length;
        }

        /** The world of a task, null if the text is none. */
        static World worldOf(String task) {
            Matcher m = TASK.matcher(task);
            if (!m.matches()) {
                return null;
            }
            World w = new World();
            for (String path : m.group(1).split("q")) {
                if (!path.isEmpty()) {
                    w.add(queryOf(path));
                }
            }
            String events = m.group(2);
            for (int i = 0; i < events.length(); i++) {
                char letter = events.charAt(i);
                if (letter == '(') {
                    if (w.openError() != 0) {
                        return null;
                    }
                    i++;
                    w.open(events.charAt(i) - 'a');
                } else if (w.current() == null) {
                    return null;
                } else if (letter == ')') {
                    w.close();
                } else {
                    w.tell(letter - '0');
                }
            }
            return w;
        }

        static Query queryOf(String path) {
            Query q = new Query();
            Matcher m = STEP.matcher(path);
            while (m.find()) {
                int condition = 0;
                if (m.group(3) != null) {
                    condition = m.group(3).length() == 1
                        ? m.group(3).charAt(0) - 'a' + 1 : m.group(3).charAt(1) - '0' + 6;
                }
                int test = m.group(2).equals("*") ? 5 : m.group(2).charAt(0) - 'a';
                q.steps.add(new int[] {m.group(1).equals("!") ? 1 : 0, test, condition});
            }
            return q;
        }

        static boolean canBegin(String prefix) {
            return Arrays.stream(COMPLETIONS).anyMatch(c -> worldOf(prefix + c) != null);
        }

        int fault() {
            if (worldOf(text.toString()) != null) {
                return NONE;
            }
            for (int i = 0; i < text.length(); i++) {
                if (!canBegin(text.substring(0, i + 1))) {
                    return i;
                }
            }
            return text.length();
        }

        int task() {
            World w = worldOf(text.toString());
            if (w == null) {
                return LATE;
            }
            world = w;
            recorded.clear();
            slots = new World[2];
            return w.queries.size();
        }

        int about(int what) {
            Element current = world.current();
            switch (what) {
                case 0: return world.queries.size();
                case 1: return world.elements.size();
                case 2: return current == null ? NONE : current.number;
                case 3: return current == null ? 0 : current.depth();
                case 4: return world.clock;
                case 5: return prefixes();
                case 6: return recorded.size();
                case 7: return observations.size();
                case 8: return text.length();
                default: return BAD;
            }
        }

        int prefixes() {
            Set<String> all = new HashSet<>();
            for (Query q : world.queries) {
                StringBuilder prefix = new StringBuilder();
                for (int[] step : q.steps) {
                    prefix.append(Arrays.toString(step));
                    all.add(prefix.toString());
                }
            }
            return all.size();
        }

        Element elementAt(int i) {
            return i < 0 || i >= world.elements.size() ? null : world.elements.get(i);
        }

        Query queryAt(int i) {
            return i < 0 || i >= world.queries.size() ? null : world.queries.get(i);
        }

        int element(int element, int what) {
            Element e = elementAt(element);
            if (e == null) {
                return UNKNOWN;
            }
            switch (what) {
                case 0: return e.name;
                case 1: return e.parent == null ? NONE : e.parent.number;
                case 2: return e.depth();
                case 3: return e.open ? 1 : 0;
                case 4: return e.digits.stream().mapToInt(d -> 1 << d).sum();
                case 5: return e.children.stream().mapToInt(c -> 1 << c.name).reduce(0, (a, b) -> a | b);
                default: return BAD;
            }
        }

        int path(int path, int what) {
            Query q = queryAt(path);
            if (q == null) {
                return UNKNOWN;
            }
            switch (what) {
                case 0: return q.steps.size();
                case 1: return world.answers(q);
                case 2: return q.emitted.size();
                case 3: return world.buffer(q);
                case 4: return q.peak;
                case 5: return world.doubts(q);
                case 6: return emittedWhenClosed(path);
                default: return BAD;
            }
        }

        int emittedWhenClosed(int path) {
            World w = world.copy();
            while (w.current() != null) {
                w.close();
            }
            return w.queries.get(path).emitted.size();
        }

        int step(int path, int step) {
            Query q = queryAt(path);
            if (q == null || step < 0 || step >= q.steps.size()) {
                return UNKNOWN;
            }
            int[] s = q.steps.get(step);
            return 1000 * s[0] + 100 * s[1] + s[2];
        }

        int is(int path, int element) {
            Query q = queryAt(path);
            Element e = elementAt(element);
            if (q == null || e == null) {
                return UNKNOWN;
            }
            return world.isAnswer(q, e) ? 2 : world.inDoubt(q, e) ? 1 : 0;
        }

        int ends(int path, int element) {
            Query q = queryAt(path);
            Element e = elementAt(element);
            if (q == null || e == null) {
                return UNKNOWN;
            }
            int set = 0;
            for (int i = 1; i <= q.steps.size(); i++) {
                set += world.matches(e, q.steps, i, false) ? 1 << i - 1 : 0;
            }
            return set;
        }

        int out(int path, int i, boolean when) {
            Query q = queryAt(path);
            if (q == null) {
                return UNKNOWN;
            }
            return i < 0 || i >= q.emitted.size() ? NONE : q.emitted.get(i)[when ? 1 : 0];
        }

        void record() {
            recorded.add(world.copy());
            if (recorded.size() > 14) {
                recorded.remove(0);
            }
        }

        int open(int name) {
            if (name < 0 || name > 4) {
                return BAD;
            }
            if (world.openError() != 0) {
                return world.openError();
            }
            record();
            return world.open(name);
        }

        int close() {
            if (world.current() == null) {
                return LATE;
            }
            record();
            return world.close();
        }

        int tell(int figure) {
            if (figure < 0 || figure > 9) {
                return BAD;
            }
            if (world.current() == null) {
                return LATE;
            }
            record();
            return world.tell(figure);
        }

        int ask(int n, long steps) {
            String digits = Long.toString(steps);
            if (n < 1 || n > 4 || steps < 0 || digits.length() > 4 * n) {
                return BAD;
            }
            digits = "0".repeat(4 * n - digits.length()) + digits;
            Query q = new Query();
            for (int i = 0; i < n; i++) {
                int axis = digits.charAt(4 * i) - '0';
                int test = digits.charAt(4 * i + 1) - '0';
                int condition = Integer.parseInt(digits.substring(4 * i + 2, 4 * i + 4));
                if (axis > 1 || test > 5 || condition > 15) {
                    return BAD;
                }
                q.steps.add(new int[] {axis, test, condition});
            }
            if (world.queries.size() == 5) {
                return FULL;
            }
            record();
            return world.add(q);
        }

        int drop() {
            if (world.queries.isEmpty()) {
                return LATE;
            }
            record();
            world.queries.remove(world.queries.size() - 1);
            return world.queries.size();
        }

        int undo() {
            if (recorded.isEmpty()) {
                return LATE;
            }
            world = recorded.remove(recorded.size() - 1);
            return recorded.size();
        }

        int within(int one, int other) {
            Query a = queryAt(one);
            Query b = queryAt(other);
            if (a == null || b == null) {
                return UNKNOWN;
            }
            return world.elements.stream().allMatch(e -> !world.isAnswer(a, e) || world.isAnswer(b, e)) ? 1 : 0;
        }

        int judge(int n, long row) {
            String digits = Long.toString(row);
            if (n < 1 || n > 4 || row < 0 || digits.length() > 3 * n) {
                return BAD;
            }
            digits = "0".repeat(3 * n - digits.length()) + digits;
            World w = world.copy();
            for (int i = 0; i < n; i++) {
                if (!judged(w, digits.charAt(3 * i) - '0', digits.charAt(3 * i + 1) - '0', digits.charAt(3 * i + 2) - '0')) {
                    return i;
                }
            }
            return NONE;
        }

        static boolean judged(World w, int kind, int b, int c) {
            Element current = w.current();
            if (kind == 0 || kind > 7) {
                return false;
            }
            if (kind >= 4 && kind <= 6) {
                if (b >= w.queries.size()) {
                    return false;
                }
                Query q = w.queries.get(b);
                return c == (kind == 4 ? w.answers(q) : kind == 5 ? q.emitted.size() : w.buffer(q));
            }
            if (b != 0) {
                return false;
            }
            if (kind == 7) {
                return c == (current == null ? 0 : current.depth());
            }
            if (kind == 1) {
                if (c > 4 || w.openError() != 0) {
                    return false;
                }
                w.open(c);
                return true;
            }
            if (current == null || kind == 2 && c != 0) {
                return false;
            }
            int emitted = kind == 2 ? w.close() : w.tell(c);
            return emitted >= 0;
        }

        int see(int path, int v) {
            if (queryAt(path) == null) {
                return UNKNOWN;
            }
            if (v < 0 || v > 20) {
                return BAD;
            }
            if (observations.size() == 6) {
                return FULL;
            }
            observations.add(new int[] {path, v});
            return observations.size();
        }

        int unsee() {
            int count = observations.size();
            observations.clear();
            return count;
        }

        int which() {
            int set = 0;
            for (int test = 0; test < 6; test++) {
                boolean all = true;
                for (int[] seen : observations) {
                    Query q = queryAt(seen[0]);
                    if (q != null) {
                        Query other = new Query();
                        other.steps.addAll(q.steps);
                        int[] last = q.steps.get(q.steps.size() - 1);
                        other.steps.set(q.steps.size() - 1, new int[] {last[0], test, last[2]});
                        all &= world.answers(other) == seen[1];
                    }
                }
                set += all ? 1 << test : 0;
            }
            return set;
        }

        int valueOf(int paths) {
            int value = 0;
            for (Element e : world.elements) {
                boolean any = false;
                for (int p = 0; p < world.queries.size(); p++) {
                    any |= (paths >> p & 1) != 0 && world.isAnswer(world.queries.get(p), e);
                }
                value += any ? 1 : 0;
            }
            return value;
        }

        static int lowest(BigInteger numerator, BigInteger denominator, boolean upper) {
            BigInteger divisor = numerator.gcd(denominator);
            return (upper ? numerator : denominator).divide(divisor).intValueExact();
        }

        int[] values() {
            int[] values = new int[1 << world.queries.size()];
            for (int set = 0; set < values.length; set++) {
                values[set] = valueOf(set);
            }
            return values;
        }

        int share(int path, boolean upper) {
            if (queryAt(path) == null) {
                return UNKNOWN;
            }
            long[] sumAndOrders = new long[2];
            walkOrders(values(), 0, path, sumAndOrders);
            return lowest(BigInteger.valueOf(sumAndOrders[0]), BigInteger.valueOf(sumAndOrders[1]), upper);
        }

        void walkOrders(int[] values, int added, int path, long[] sumAndOrders) {
            if (added == values.length - 1) {
                sumAndOrders[1]++;
            }
            for (int p = 0; p < world.queries.size(); p++) {
                int next = added | 1 << p;
                if (next != added) {
                    int left = world.queries.size() - Integer.bitCount(next);
                    if (p == path) {
                        long ways = 1;
                        for (int i = 2; i <= left; i++) {
                            ways *= i;
                        }
                        sumAndOrders[0] += ways * (values[next] - values[added]);
                    }
                    walkOrders(values, next, path, sumAndOrders);
                }
            }
        }

        int chance(int v, int x, boolean upper) {
            if (v < 0 || v > 20 || x < 0 || x > 10) {
                return BAD;
            }
            int n = world.queries.size();
            int[] values = values();
            BigInteger sum = BigInteger.ZERO;
            for (int set = 0; set < 1 << n; set++) {
                if (values[set] >= v) {
                    int remain = Integer.bitCount(set);
                    sum = sum.add(BigInteger.valueOf(10 - x).pow(remain).multiply(BigInteger.valueOf(x).pow(n - remain)));
                }
            }
            return lowest(sum, BigInteger.TEN.pow(n), upper);
        }

        long seed(long v) {
            long previous = random;
            random = v;
            return previous;
        }

        int drawn(int m) {
            if (m < 1 || m > 30) {
                return BAD;
            }
            World w = world.copy();
            for (int i = 0; i < m; i++) {
                random = random * 6364136223846793005L + 1442695040888963407L;
                int v = (int) (random >>> 33);
                if (v % 8 <= 3) {
                    if (w.openError() == 0) {
                        w.open(v / 8 % 5);
                    }
                } else if (w.current() != null) {
                    if (v % 8 <= 5) {
                        w.close();
                    } else {
                        w.tell(v / 8 % 10);
                    }
                }
            }
            return w.queries.stream().mapToInt(w::answers).sum();
        }

        int keep(int slot) {
            if (slot < 0 || slot > 1) {
                return UNKNOWN;
            }
            slots[slot] = world.copy();
            return world.clock;
        }

        int again(int slot) {
            if (slot < 0 || slot > 1) {
                return UNKNOWN;
            }
            if (slots[slot] == null) {
                return LATE;
            }
            world = slots[slot].copy();
            recorded.clear();
            return world.clock;
        }
    }

    /** Makes calls on both objects and tells the first one that they answer differently. */
    static final class Run {
        final Random random;
        final PathStream x = new PathStream();
        final Model model = new Model();
        final List<String> calls = new ArrayList<>();
        final int digits;
        final int names;
        boolean same = true;

        Run(long seed) {
            random = new Random(seed);
            digits = 1 + random.nextInt(10);
            names = 1 + random.nextInt(5);
        }

        void check(String call, long got, long want) {
            calls.add(call + " -> " + got);
            if (got != want && same) {
                same = false;
                int from = Math.max(0, calls.size() - 60);
                calls.subList(from, calls.size()).forEach(System.out::println);
                System.out.println("due is " + want);
            }
        }

        /** Mostly 0 to below - 1, sometimes a little or far outside. */
        int number(int below) {
            switch (random.nextInt(40)) {
                case 0: return below;
                case 1: return -1;
                case 2: return random.nextBoolean() ? Integer.MAX_VALUE : Integer.MIN_VALUE;
                case 3: return random.nextInt();
                default: return random.nextInt(Math.max(1, below));
            }
        }

        int pathNumber() {
            return number(model.world.queries.size());
        }

        int elementNumber() {
            return number(model.world.elements.size());
        }

        int name() {
            return number(names);
        }

        long steps(int n) {
            long steps = 0;
            for (int i = 0; i < Math.max(1, Math.min(n, 4)); i++) {
                int condition = 0;
                switch (random.nextInt(3)) {
                    case 0: condition = 1 + random.nextInt(names); break;
                    case 1: condition = 6 + random.nextInt(digits); break;
                    default: break;
                }
                int axis = random.nextInt(3) == 0 ? 0 : 1;
                int test = random.nextInt(3) == 0 ? 5 : random.nextInt(names);
                steps = steps * 10000 + axis * 1000 + test * 100 + condition;
            }
            switch (random.nextInt(30)) {
                case 0: return steps + 10;
                case 1: return steps * 10;
                case 2: return -steps;
                case 3: return random.nextLong();
                case 4: return Math.floorMod(random.nextLong(), 10_000_000_000_000_000L);
                default: return steps;
            }
        }

        String taskText() {
            StringBuilder s = new StringBuilder("D");
            int paths = random.nextInt(10) == 0 ? 6 : random.nextInt(6);
            for (int p = 0; p < paths; p++) {
                s.append('q');
                int n = random.nextInt(15) == 0 ? 5 : 1 + random.nextInt(4 - p / 2);
                for (int i = 0; i < n; i++) {
                    s.append(random.nextInt(3) == 0 ? '/' : '!');
                    s.append(random.nextInt(3) == 0 ? '*' : (char) ('a' + random.nextInt(names)));
                    switch (random.nextInt(4)) {
                        case 0: s.append('[').append((char) ('a' + random.nextInt(names))).append(']'); break;
                        case 1: s.append("[=").append(random.nextInt(digits)).append(']'); break;
                        default: break;
                    }
                }
                s.append('.');
            }
            appendEvents(s);
            if (random.nextInt(3) == 0) {
                String letters = "Dq/!abcdef*[]=.()0123456789 ";
                int at = random.nextInt(s.length());
                s.setCharAt(at, letters.charAt(random.nextInt(letters.length())));
            }
            return s.toString();
        }

        void appendEvents(StringBuilder s) {
            int depth = 0;
            boolean begun = false;
            int events = random.nextInt(40);
            boolean careful = random.nextInt(4) != 0;
            for (int i = 0; i < events; i++) {
                int kind = random.nextInt(8);
                boolean canOpen = depth > 0 && depth < 8 || !begun;
                if (kind < 4 && (canOpen || !careful)) {
                    s.append('(').append((char) ('a' + random.nextInt(names)));
                    depth++;
                    begun = true;
                } else if (kind < 6 && (depth > 1 || !careful)) {
                    s.append(')');
                    depth--;
                } else if (depth > 0 || !careful) {
                    s.append(random.nextInt(digits));
                }
            }
        }

        void writeTask() {
            if (random.nextInt(8) != 0) {
                check("wipe()", x.wipe(), model.wipe());
            }
            for (char letter : taskText().toCharArray()) {
                check("write(" + (int) letter + ")", x.write(letter), model.write(letter));
            }
            check("fault()", x.fault(), model.fault());
            if (random.nextInt(3) != 0) {
                check("task()", x.task(), model.task());
            }
        }

        void call(int kind) {
            int a;
            int b;
            long l;
            boolean w = random.nextBoolean();
            switch (kind) {
                case 0: a = number(256); check("write(" + a + ")", x.write(a), model.write(a)); break;
                case 1: check("wipe()", x.wipe(), model.wipe()); break;
                case 2: check("fault()", x.fault(), model.fault()); break;
                case 3: check("task()", x.task(), model.task()); break;
                case 4: a = number(9); check("about(" + a + ")", x.about(a), model.about(a)); break;
                case 5: a = elementNumber(); b = number(6); check("element(" + a + ", " + b + ")", x.element(a, b), model.element(a, b)); break;
                case 6: a = pathNumber(); b = number(7); check("path(" + a + ", " + b + ")", x.path(a, b), model.path(a, b)); break;
                case 7: a = pathNumber(); b = number(4); check("step(" + a + ", " + b + ")", x.step(a, b), model.step(a, b)); break;
                case 8: a = pathNumber(); b = elementNumber(); check("is(" + a + ", " + b + ")", x.is(a, b), model.is(a, b)); break;
                case 9: a = pathNumber(); b = elementNumber(); check("ends(" + a + ", " + b + ")", x.ends(a, b), model.ends(a, b)); break;
                case 10: a = pathNumber(); b = number(8); check("out(" + a + ", " + b + ", " + w + ")", x.out(a, b, w), model.out(a, b, w)); break;
                case 11: a = name(); check("open(" + a + ")", x.open(a), model.open(a)); break;
                case 12: check("close()", x.close(), model.close()); break;
                case 13: a = number(digits); check("tell(" + a + ")", x.tell(a), model.tell(a)); break;
                case 14: a = random.nextInt(20) == 0 ? number(6) : 1 + random.nextInt(4); l = steps(a); check("ask(" + a + ", " + l + ")", x.ask(a, l), model.ask(a, l)); break;
                case 15: check("drop()", x.drop(), model.drop()); break;
                case 16: check("undo()", x.undo(), model.undo()); break;
                case 17: a = pathNumber(); b = pathNumber(); check("within(" + a + ", " + b + ")", x.within(a, b), model.within(a, b)); break;
                case 18: judge(); break;
                case 19: see(); break;
                case 20: check("unsee()", x.unsee(), model.unsee()); break;
                case 21: check("which()", x.which(), model.which()); break;
                case 22: a = pathNumber(); check("share(" + a + ", " + w + ")", x.share(a, w), model.share(a, w)); break;
                case 23: a = number(random.nextBoolean() ? 21 : 6); b = number(11); check("chance(" + a + ", " + b + ", " + w + ")", x.chance(a, b, w), model.chance(a, b, w)); break;
                case 24: l = random.nextLong(); check("seed(" + l + ")", x.seed(l), model.seed(l)); break;
                case 25: a = number(31); check("drawn(" + a + ")", x.drawn(a), model.drawn(a)); break;
                case 26: a = number(2); check("keep(" + a + ")", x.keep(a), model.keep(a)); break;
                default: a = number(2); check("again(" + a + ")", x.again(a), model.again(a)); break;
            }
        }

        /** Half of the statements are true ones, so that the later ones are reached. */
        void judge() {
            int n = random.nextInt(20) == 0 ? number(5) : 1 + random.nextInt(4);
            World w = model.world.copy();
            long row = 0;
            for (int i = 0; i < Math.min(Math.max(n, 1), 4); i++) {
                int kind = random.nextInt(10) == 0 ? random.nextInt(10) : 1 + random.nextInt(7);
                int b = kind >= 4 && kind <= 6 ? random.nextInt(6) : random.nextInt(30) == 0 ? 1 : 0;
                int c = kind == 1 ? random.nextInt(6) : kind == 2 ? random.nextInt(20) / 19 : random.nextInt(10);
                if (kind >= 4 && random.nextInt(4) != 0) {
                    c = trueDigit(w, kind, b, c);
                }
                Model.judged(w, kind, b, c);
                row = row * 1000 + kind * 100 + b * 10 + c;
            }
            if (random.nextInt(25) == 0) {
                row = random.nextBoolean() ? -row : row * 10;
            }
            check("judge(" + n + ", " + row + ")", x.judge(n, row), model.judge(n, row));
        }

        static int trueDigit(World w, int kind, int b, int other) {
            for (int c = 0; c < 10; c++) {
                if (Model.judged(w, kind, b, c)) {
                    return c;
                }
            }
            return other;
        }

        void see() {
            int a = pathNumber();
            int b = number(21);
            Query q = model.queryAt(a);
            if (q != null && random.nextBoolean()) {
                b = model.world.answers(q);
            }
            check("see(" + a + ", " + b + ")", x.see(a, b), model.see(a, b));
        }

        boolean run() {
            int[] often = {11, 11, 11, 11, 12, 12, 13, 13, 13, 14, 14, 14};
            for (int i = 0; i < CALLS && calls.size() < CALLS && same; i++) {
                int choice = random.nextInt(100);
                if (choice < 2) {
                    writeTask();
                } else if (choice < 45) {
                    call(often[random.nextInt(often.length)]);
                } else {
                    call(random.nextInt(28));
                }
            }
            lookAtAll();
            return same;
        }

        void lookAtAll() {
            for (int p = 0; p < model.world.queries.size(); p++) {
                for (int what = 0; what < 7; what++) {
                    check("path(" + p + ", " + what + ")", x.path(p, what), model.path(p, what));
                }
                for (int i = 0; i < 20; i++) {
                    check("out(" + p + ", " + i + ", true)", x.out(p, i, true), model.out(p, i, true));
                    check("out(" + p + ", " + i + ", false)", x.out(p, i, false), model.out(p, i, false));
                }
            }
        }
    }

    public static void main(String[] args) {
        int wrong = 0;
        long calls = 0;
        for (int seed = 1; seed <= RUNS && wrong < 3; seed++) {
            Run run = new Run(seed);
            if (!run.run()) {
                System.out.println("run " + seed + " is not as due");
                wrong++;
            }
            calls += run.calls.size();
        }
        System.out.println(calls + " calls in random runs, " + wrong + " runs not as due");
        if (wrong != 0) {
            System.exit(1);
        }
    }
}
