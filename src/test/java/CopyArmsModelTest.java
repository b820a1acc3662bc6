import java.math.BigInteger;
import java.util.ArrayList;
import java.util.Arrays;
import java.util.HashMap;
import java.util.List;
import java.util.Map;
import java.util.NoSuchElementException;
import java.util.Random;
import java.util.Set;
import java.util.regex.Matcher;
import java.util.regex.Pattern;

/**
 * Runs of drawn calls, each answer compared with that of a slow model that tries everything: all holes, all orders,
 * all pins, all descents. The seeds are written down, so every run is the same each time.
 */
public final class CopyArmsModelTest {
    private static int wrong = 0;
    private static long compared = 0;
    private static final Map<String, Integer> ANSWERED = new HashMap<>();

    public static void main(String[] args) {
        for (int seed = 1; seed <= 1500; seed++) {
            new Run(seed).go();
            if (wrong > 20) {
                break;
            }
        }
        for (String call : Run.CALLS) {
            if (ANSWERED.getOrDefault(call, 0) < 100) {
                wrong++;
                System.out.println(call + " was hardly ever answered other than by NONE, false or an exception");
            }
        }
        System.out.println(compared + " answers compared, " + wrong + " wrong");
        if (wrong != 0) {
            System.exit(1);
        }
    }

    /** A fraction in lowest terms. */
    record Frac(BigInteger n, BigInteger d) implements Comparable<Frac> {
        static final Frac ZERO = of(0, 1);
        static final Frac ONE = of(1, 1);

        static Frac of(long n, long d) {
            return make(BigInteger.valueOf(n), BigInteger.valueOf(d));
        }

        static Frac make(BigInteger n, BigInteger d) {
            BigInteger g = n.gcd(d);
            if (d.signum() < 0) {
                g = g.negate();
            }
            return new Frac(n.divide(g), d.divide(g));
        }

        Frac plus(Frac o) {
            return make(n.multiply(o.d).add(o.n.multiply(d)), d.multiply(o.d));
        }

        Frac minus(Frac o) {
            return plus(o.negated());
        }

        Frac times(Frac o) {
            return make(n.multiply(o.n), d.multiply(o.d));
        }

        Frac negated() {
            return new Frac(n.negate(), d);
        }

        Frac abs() {
            return n.signum() < 0 ? negated() : this;
        }

        @Override
        public int compareTo(Frac o) {
            return n.multiply(o.d).compareTo(o.n.multiply(d));
        }
    }

    static final class Rod {
        String name;
        int kind;
        List<Integer> holes = new ArrayList<>();
        int reach;
        int shake;
        int p;
        int q;
        int turn;
        int x;
        int y;
        int bend;

        Rod copy() {
            Rod r = new Rod();
            r.name = name;
            r.kind = kind;
            r.holes = new ArrayList<>(holes);
            r.reach = reach;
            r.shake = shake;
            r.p = p;
            r.q = q;
            r.turn = turn;
            r.x = x;
            r.y = y;
            r.bend = bend;
            return r;
        }

        Frac size() {
            return Frac.of(p, q);
        }
    }

    static final class Sheet {
        String name;
        int above;
        int below;
        int slips;
        List<int[]> points = new ArrayList<>();
    }

    static final class State {
        List<Rod> rods = new ArrayList<>();
        List<Integer> chain = new ArrayList<>();
        int[][] seen = new int[4][];

        State copy() {
            State s = new State();
            for (Rod r : rods) {
                s.rods.add(r.copy());
            }
            s.chain = new ArrayList<>(chain);
            for (int i = 0; i < 4; i++) {
                s.seen[i] = seen[i] == null ? null : seen[i].clone();
            }
            return s;
        }
    }

    /** A text read by its list of tokens. */
    static final class Text {
        static final Pattern TOKEN = Pattern.compile("[a-z]+|[0-9]+|[^a-z0-9 \\n]");
        static final Set<String> KEPT = Set.of("arm", "holes", "turn", "at", "reach", "shake", "bend", "map", "size",
            "to", "slips", "points", "plain", "mirror", "stiff", "loose");
        static final List<String> KINDS = List.of("plain", "mirror", "stiff", "loose");
        final List<String> tokens = new ArrayList<>();
        final List<Integer> places = new ArrayList<>();
        final List<Rod> rods = new ArrayList<>();
        final List<Sheet> sheets = new ArrayList<>();
        final List<String> names = new ArrayList<>();
        int at = 0;

        static final class Wrong extends RuntimeException {
            private static final long serialVersionUID = 1;
            final int kind;

            Wrong(int kind) {
                this.kind = kind;
            }
        }

        Text(String text) {
            Matcher m = TOKEN.matcher(text);
            while (m.find()) {
                tokens.add(m.group());
                places.add(m.start());
            }
            tokens.add("");
            places.add(text.length());
        }

        int read() {
            try {
                while (!now().isEmpty()) {
                    statement();
                }
                return 0;
            } catch (Wrong w) {
                return w.kind + 16 * places.get(at);
            }
        }

        String now() {
            return tokens.get(at);
        }

        boolean isNumber() {
            return now().matches("[0-9]{1,4}");
        }

        boolean isWord() {
            return now().matches("[a-z]{1,8}");
        }

        void word(String w) {
            if (!now().equals(w)) {
                throw new Wrong(1);
            }
            at++;
        }

        int number(int least, int most) {
            if (!isNumber()) {
                throw new Wrong(1);
            }
            int n = Integer.parseInt(now());
            if (n < least || n > most) {
                throw new Wrong(4);
            }
            at++;
            return n;
        }

        String name() {
            if (!isWord() || KEPT.contains(now())) {
                throw new Wrong(1);
            }
            if (names.contains(now())) {
                throw new Wrong(3);
            }
            names.add(now());
            return tokens.get(at++);
        }

        void statement() {
            if (now().equals("arm")) {
                if (rods.size() == 6) {
                    throw new Wrong(5);
                }
                at++;
                rod();
            } else if (now().equals("map")) {
                if (sheets.size() == 7) {
                    throw new Wrong(5);
                }
                at++;
                sheet();
            } else {
                throw new Wrong(1);
            }
        }

        void rod() {
            Rod r = new Rod();
            r.name = name();
            r.kind = KINDS.indexOf(now());
            if (r.kind < 0) {
                throw new Wrong(1);
            }
            at++;
            word("holes");
            while (isNumber() || r.holes.size() < 2) {
                hole(r);
            }
            word("turn");
            r.turn = number(0, 3);
            word("at");
            r.x = number(0, 99);
            r.y = number(0, 99);
            word("reach");
            r.reach = number(1, 200);
            word("shake");
            r.shake = number(0, 9);
            if (now().equals("bend")) {
                at++;
                r.bend = number(0, 9);
            }
            word(";");
            r.p = r.holes.get(0);
            r.q = r.holes.get(1);
            rods.add(r);
        }

        void hole(Rod r) {
            int here = at;
            int n = number(1, 9);
            if (r.holes.contains(n)) {
                at = here;
                throw new Wrong(3);
            }
            if (r.holes.size() == 4) {
                at = here;
                throw new Wrong(5);
            }
            r.holes.add(n);
        }

        void sheet() {
            Sheet s = new Sheet();
            s.name = name();
            word("size");
            s.above = number(1, 9);
            word("to");
            s.below = number(1, 9);
            word("slips");
            s.slips = number(0, 255);
            word("points");
            s.points.add(new int[] {number(0, 99), number(0, 99)});
            while (now().equals(",")) {
                if (s.points.size() == 6) {
                    throw new Wrong(5);
                }
                at++;
                s.points.add(new int[] {number(0, 99), number(0, 99)});
            }
            word(";");
            sheets.add(s);
        }
    }

    static final class Model {
        StringBuilder tape = new StringBuilder();
        State now = new State();
        List<Sheet> sheets = new ArrayList<>();
        State[] marks = new State[4];

        int feed(long a, long b, long c) {
            for (byte x : java.nio.ByteBuffer.allocate(24).putLong(a).putLong(b).putLong(c).array()) {
                if ((x == 10 || x >= 32 && x <= 126) && tape.length() < 1000) {
                    tape.append((char) x);
                }
            }
            return tape.length();
        }

        int office() {
            Text text = new Text(tape.toString());
            tape = new StringBuilder();
            int fault = text.read();
            if (fault == 0) {
                now = new State();
                now.rods = text.rods;
                sheets = text.sheets;
                marks = new State[4];
            }
            return fault;
        }

        boolean isArm(int a) {
            return a >= 0 && a < now.rods.size();
        }

        boolean isMap(int m) {
            return m >= 0 && m < sheets.size();
        }

        int arm(int a, int what) {
            if (!isArm(a) || what < 0 || what > 9) {
                return -1;
            }
            Rod r = now.rods.get(a);
            return new int[] {r.kind, r.p, r.q, r.turn, r.x, r.y, r.reach, r.shake, r.bend, r.holes.size()}[what];
        }

        int hole(int a, int i) {
            return !isArm(a) || i < 0 || i >= now.rods.get(a).holes.size() ? -1 : now.rods.get(a).holes.get(i);
        }

        int map(int m, int what) {
            if (!isMap(m) || what < 0 || what > 3) {
                return -1;
            }
            Sheet s = sheets.get(m);
            Frac f = Frac.of(s.above, s.below);
            return new int[] {f.n.intValue(), f.d.intValue(), s.slips, s.points.size()}[what];
        }

        int point(int m, int i, boolean y) {
            if (!isMap(m) || i < 0 || i >= sheets.get(m).points.size()) {
                return -1;
            }
            return sheets.get(m).points.get(i)[y ? 1 : 0];
        }

        boolean set(int a, int i, int j) {
            if (hole(a, i) < 0 || hole(a, j) < 0 || i == j) {
                return false;
            }
            now.rods.get(a).p = hole(a, i);
            now.rods.get(a).q = hole(a, j);
            return true;
        }

        boolean turn(int a, int t) {
            if (!isArm(a) || t < 0 || t > 3 || now.rods.get(a).kind == 2) {
                return false;
            }
            now.rods.get(a).turn = t;
            return true;
        }

        boolean pin(int a, int x, int y) {
            if (!isArm(a) || x < 0 || x > 99 || y < 0 || y > 99) {
                return false;
            }
            now.rods.get(a).x = x;
            now.rods.get(a).y = y;
            return true;
        }

        boolean bend(int a, int t) {
            if (!isArm(a) || t < 0 || t > 9) {
                return false;
            }
            now.rods.get(a).bend = t;
            return true;
        }

        Frac[] copyOf(Rod r, Frac[] at, int bend, boolean far) {
            Frac px = Frac.of(r.x, 1);
            Frac py = Frac.of(r.y, 1);
            Frac dx = at[0].minus(px);
            Frac dy = at[1].minus(py);
            if (!far && dx.abs().plus(dy.abs()).compareTo(Frac.of(r.reach, 1)) > 0) {
                return null;
            }
            if (r.kind == 1) {
                dx = dx.negated();
            }
            for (int t = 0; t < r.turn; t++) {
                Frac was = dx;
                dx = dy.negated();
                dy = was;
            }
            dx = dx.plus(dy.times(Frac.of(bend, 10)));
            return new Frac[] {px.plus(dx.times(r.size())), py.plus(dy.times(r.size()))};
        }

        Frac[] through(List<Integer> arms, int x, int y) {
            Frac[] at = {Frac.of(x, 1), Frac.of(y, 1)};
            for (int a : arms) {
                at = at == null ? null : copyOf(now.rods.get(a), at, now.rods.get(a).bend, false);
            }
            return at;
        }

        long drawn(List<Integer> arms, int x, int y, int what) {
            if (Math.abs(x) > 9999 || Math.abs(y) > 9999 || what < 0 || what > 3) {
                throw new NoSuchElementException();
            }
            Frac[] at = through(arms, x, y);
            if (at == null) {
                throw new NoSuchElementException();
            }
            return (what % 2 == 0 ? at[what / 2].n : at[what / 2].d).longValueExact();
        }

        long trace(int a, int x, int y, int what) {
            if (!isArm(a)) {
                throw new NoSuchElementException();
            }
            return drawn(List.of(a), x, y, what);
        }

        int chain(int a) {
            if (a < 0) {
                now.chain.clear();
                return 0;
            }
            if (!isArm(a) || now.chain.contains(a) || now.chain.size() == 4) {
                return -1;
            }
            now.chain.add(a);
            return now.chain.size();
        }

        int size(int what) {
            Frac f = Frac.ONE;
            int turn = 0;
            int mirrors = 0;
            for (int a : now.chain) {
                Rod r = now.rods.get(a);
                f = f.times(r.size());
                turn += r.turn;
                mirrors += r.kind == 1 ? 1 : 0;
            }
            return what < 0 || what > 3 ? -1 : new int[] {f.n.intValue(), f.d.intValue(), turn % 4, mirrors % 2}[what];
        }

        int outs(int m) {
            if (!isMap(m)) {
                return -1;
            }
            int bits = 0;
            for (int i = 0; i < sheets.get(m).points.size(); i++) {
                int[] p = sheets.get(m).points.get(i);
                bits |= through(now.chain, p[0], p[1]) == null ? 1 << i : 0;
            }
            return bits;
        }

        int fitted(int above, int below, int what) {
            if (above < 1 || above > 999 || below < 1 || below > 999 || what < 0 || what > 2) {
                return -1;
            }
            for (int many = 0; many <= 3; many++) {
                int ways = 0;
                int least = -1;
                for (int set = 0; set < 1 << now.rods.size(); set++) {
                    if (Integer.bitCount(set) == many) {
                        int w = ways(set, 1, 1, above, below);
                        least = w > 0 && least < 0 ? set : least;
                        ways += w;
                    }
                }
                if (ways > 0) {
                    return new int[] {many, ways, least}[what];
                }
            }
            return -1;
        }

        int ways(int set, long n, long d, int above, int below) {
            if (set == 0) {
                return n * below == d * above ? 1 : 0;
            }
            int a = 31 - Integer.numberOfLeadingZeros(set);
            int sum = 0;
            for (int p : now.rods.get(a).holes) {
                for (int q : now.rods.get(a).holes) {
                    sum += p == q ? 0 : ways(set ^ 1 << a, n * p, d * q, above, below);
                }
            }
            return sum;
        }

        boolean see(int c, int x, int y) {
            if (c < 0 || c > 3 || Math.abs(x) > 999 || Math.abs(y) > 999) {
                return false;
            }
            now.seen[c] = new int[] {x, y};
            return true;
        }

        boolean clear() {
            now.seen = new int[4][];
            return true;
        }

        int seenCount() {
            int n = 0;
            for (int[] s : now.seen) {
                n += s == null ? 0 : 1;
            }
            return n;
        }

        Integer bendOf(int a) {
            int[][] square = {{0, 0}, {10, 0}, {10, 10}, {0, 10}};
            for (int b = -9; b <= 9; b++) {
                boolean all = true;
                for (int c = 0; c < 4; c++) {
                    if (now.seen[c] != null) {
                        Frac[] at = {Frac.of(square[c][0], 1), Frac.of(square[c][1], 1)};
                        Frac[] to = copyOf(now.rods.get(a), at, b, true);
                        all &= to[0].equals(Frac.of(now.seen[c][0], 1)) && to[1].equals(Frac.of(now.seen[c][1], 1));
                    }
                }
                if (all) {
                    return b;
                }
            }
            return null;
        }

        int suspects() {
            if (seenCount() == 0) {
                return -1;
            }
            int bits = 0;
            for (int a = 0; a < now.rods.size(); a++) {
                bits |= bendOf(a) == null ? 0 : 1 << a;
            }
            return bits;
        }

        int crooked(int a) {
            if (seenCount() == 0 || !isArm(a) || bendOf(a) == null) {
                throw new NoSuchElementException();
            }
            return bendOf(a);
        }

        Frac shakesOf(List<Integer> order) {
            Frac sum = Frac.ZERO;
            for (int i = 0; i < order.size(); i++) {
                Rod r = now.rods.get(order.get(i));
                Frac f = Frac.of(r.kind == 3 ? 2 * r.shake : r.shake, 1);
                for (int k = i; k < order.size(); k++) {
                    f = f.times(now.rods.get(order.get(k)).size());
                }
                sum = sum.plus(f);
            }
            return sum;
        }

        long shakes(int what) {
            Frac f = shakesOf(now.chain);
            return what == 0 ? f.n.longValueExact() : what == 1 ? f.d.longValueExact() : -1;
        }

        void orders(List<Integer> left, List<Integer> laid, List<List<Integer>> all) {
            if (left.isEmpty()) {
                all.add(new ArrayList<>(laid));
            }
            for (Integer a : left) {
                List<Integer> rest = new ArrayList<>(left);
                rest.remove(a);
                laid.add(a);
                orders(rest, laid, all);
                laid.remove(laid.size() - 1);
            }
        }

        long steadiest(int what) {
            List<List<Integer>> all = new ArrayList<>();
            orders(now.chain, new ArrayList<>(), all);
            List<Integer> best = null;
            for (List<Integer> order : all) {
                int by = best == null ? -1 : shakesOf(order).compareTo(shakesOf(best));
                if (by < 0 || by == 0 && order.toString().compareTo(best.toString()) < 0) {
                    best = order;
                }
            }
            Frac f = shakesOf(best);
            if (what == 0 || what == 1) {
                return (what == 0 ? f.n : f.d).longValueExact();
            }
            return what < 2 || what - 2 >= best.size() ? -1 : best.get(what - 2);
        }

        int sheets(int m, int reach) {
            if (!isMap(m) || reach < 0 || reach > 200) {
                return -1;
            }
            List<int[]> points = sheets.get(m).points;
            boolean[] one = new boolean[1 << points.size()];
            for (int x = 0; x <= 99; x++) {
                for (int y = 0; y <= 99; y++) {
                    int bits = 0;
                    for (int i = 0; i < points.size(); i++) {
                        int far = Math.abs(points.get(i)[0] - x) + Math.abs(points.get(i)[1] - y);
                        bits |= far <= reach ? 1 << i : 0;
                    }
                    one[bits] = true;
                }
            }
            boolean[] got = new boolean[one.length];
            got[0] = true;
            for (int pins = 0; ; pins++) {
                if (got[got.length - 1]) {
                    return pins;
                }
                boolean[] next = got.clone();
                for (int s = 0; s < got.length; s++) {
                    for (int t = 0; t < one.length; t++) {
                        next[s | t] |= got[s] && one[t];
                    }
                }
                got = next;
            }
        }

        int[] bestRow;
        int bestCost;

        void descents(int[] row, int map, int cost) {
            int n = sheets.size();
            if (map < n) {
                for (int from = 0; from < n; from++) {
                    int c = from == map ? 0 : copyCost(from, map);
                    if (c >= 0 && cost + c <= bestCost) {
                        row[map + 1] = from;
                        descents(row, map + 1, cost + c);
                    }
                }
                return;
            }
            for (int first = 0; first < n; first++) {
                row[0] = first;
                boolean better = cost < bestCost || cost == bestCost && (bestRow == null || Arrays.compare(row, bestRow) < 0);
                if (better && isTree(row)) {
                    bestCost = cost;
                    bestRow = row.clone();
                }
            }
        }

        boolean isTree(int[] row) {
            for (int map = 0; map < sheets.size(); map++) {
                if ((row[map + 1] == map) != (map == row[0])) {
                    return false;
                }
                int at = map;
                for (int step = 0; step < 8; step++) {
                    at = row[at + 1];
                }
                if (at != row[0]) {
                    return false;
                }
            }
            return true;
        }

        int copyCost(int from, int to) {
            Sheet a = sheets.get(from);
            Sheet b = sheets.get(to);
            for (Rod r : now.rods) {
                if (Frac.of(a.above, a.below).times(r.size()).equals(Frac.of(b.above, b.below))) {
                    return Integer.bitCount(a.slips ^ b.slips);
                }
            }
            return -1;
        }

        int descent(int what) {
            bestRow = null;
            bestCost = 1000;
            if (!sheets.isEmpty()) {
                descents(new int[sheets.size() + 1], 0, 0);
            }
            if (bestRow == null || what < 0 || what > sheets.size() + 1) {
                return -1;
            }
            return what == 0 ? bestCost : bestRow[what - 1];
        }

        boolean mark(int m, boolean back) {
            if (m < 0 || m > 3 || back && marks[m] == null) {
                return false;
            }
            if (back) {
                now = marks[m].copy();
            } else {
                marks[m] = now.copy();
            }
            return true;
        }

        int count(int what) {
            int[] all = {now.rods.size(), sheets.size(), now.chain.size(), seenCount(), tape.length()};
            return what < 0 || what > 4 ? -1 : all[what];
        }
    }

    /** One object and one model, told the same. */
    static final class Run {
        static final List<String> CALLS = List.of("feed", "office", "arm", "hole", "map", "point", "set", "turn", "pin",
            "bend", "trace", "chain", "size", "draw", "outs", "fitted", "see", "clear", "suspects", "crooked", "shakes",
            "steadiest", "sheets", "descent", "mark", "count");
        static final long THROWN = Long.MIN_VALUE;
        final int seed;
        final Random random;
        final CopyArms real = new CopyArms();
        final Model model = new Model();
        final List<String> told = new ArrayList<>();
        int calls = 0;

        Run(int seed) {
            this.seed = seed;
            this.random = new Random(seed);
        }

        void go() {
            for (int part = 0; part < 3; part++) {
                tell(drawnText());
                int rest = 130;
                for (int i = 0; i < rest && calls < 500; i++) {
                    drawnCall();
                }
            }
        }

        int upTo(int n) {
            return random.nextInt(n);
        }

        /** Mostly a number of 0 to most, at times one just beyond. */
        int near(int most) {
            int way = upTo(12);
            return way == 0 ? -1 : way == 1 ? most + 1 : upTo(most + 1);
        }

        String drawnText() {
            StringBuilder b = new StringBuilder();
            int arms = upTo(8) == 0 ? 7 : upTo(7);
            int maps = upTo(8) == 0 ? 8 : upTo(8);
            int widest = upTo(2) == 0 ? 4 : 9;
            List<String> parts = new ArrayList<>();
            for (int a = 0; a < arms; a++) {
                parts.add(drawnArm((upTo(60) == 0 ? "a" : "a" + (char) ('a' + a)), widest));
            }
            for (int m = 0; m < maps; m++) {
                parts.add(drawnMap("m" + (char) ('a' + m), widest));
            }
            java.util.Collections.shuffle(parts, random);
            for (String p : parts) {
                b.append(p).append(upTo(3) == 0 ? "\n" : "");
            }
            if (upTo(4) == 0) {
                spoil(b);
            }
            return b.toString();
        }

        String drawnArm(String name, int widest) {
            StringBuilder b = new StringBuilder("arm " + name + " " + Text.KINDS.get(upTo(4)) + " holes");
            List<Integer> holes = new ArrayList<>();
            for (int i = 1; i <= widest; i++) {
                holes.add(i);
            }
            java.util.Collections.shuffle(holes, random);
            int many = 2 + upTo(3);
            for (int i = 0; i < many; i++) {
                b.append(' ').append(holes.get(i));
            }
            b.append(upTo(9) == 0 ? "turn" : " turn ").append(upTo(4)).append(" at ").append(upTo(100)).append(' ').append(upTo(100));
            b.append(" reach ").append(1 + upTo(200)).append(" shake ").append(upTo(10));
            b.append(upTo(2) == 0 ? " bend " + upTo(10) : "").append(upTo(2) == 0 ? ";" : " ; ");
            return b.toString();
        }

        String drawnMap(String name, int widest) {
            int small = upTo(2) == 0 ? 3 : widest;
            StringBuilder b = new StringBuilder("map " + name + " size " + (1 + upTo(small)) + " to " + (1 + upTo(small)));
            b.append(" slips ").append(upTo(2) == 0 ? upTo(4) : upTo(256)).append(" points ");
            int many = 1 + upTo(6);
            int spread = upTo(2) == 0 ? 4 : 100;
            for (int i = 0; i < many; i++) {
                b.append(i > 0 ? "," : "").append(upTo(spread)).append(' ').append(upTo(spread));
            }
            return b.append(';').toString();
        }

        void spoil(StringBuilder b) {
            int times = 1 + upTo(2);
            for (int i = 0; i < times && b.length() > 2; i++) {
                int at = upTo(b.length());
                String[] put = {" ", "", ",", ";", "7", "x", "A", "arm ", " 10 ", "bend 3", "holes", "map", "99999", " ab ", "0", "1", "_"};
                String with = put[upTo(put.length)];
                int way = upTo(3);
                if (way == 0) {
                    b.insert(at, with);
                } else if (way == 1) {
                    b.replace(at, Math.min(b.length(), at + 1 + upTo(6)), with);
                } else {
                    b.setLength(at);
                }
            }
        }

        void tell(String text) {
            String rest = text;
            while (!rest.isEmpty() && calls < 450) {
                String now = rest.substring(0, Math.min(24, rest.length()));
                rest = rest.substring(now.length());
                long[] words = new long[3];
                for (int i = 0; i < now.length(); i++) {
                    words[i / 8] |= (long) now.charAt(i) << 56 - 8 * (i % 8);
                }
                feed(words[0], words[1], words[2]);
            }
            compare("office", "()", real.office(), model.office());
        }

        void feed(long a, long b, long c) {
            compare("feed", "(" + a + ", " + b + ", " + c + ")", real.feed(a, b, c), model.feed(a, b, c));
        }

        void drawnCall() {
            String call = CALLS.get(upTo(CALLS.size()));
            int a = near(5);
            int b = near(9);
            int c = near(3);
            int d = near(9);
            switch (call) {
                case "feed":
                    if (upTo(10) == 0) {
                        feed(random.nextLong(), random.nextLong(), random.nextLong());
                    }
                    break;
                case "office":
                    if (upTo(20) == 0) {
                        tell("");
                    }
                    break;
                case "arm": compare(call, args(a, b), real.arm(a, b), model.arm(a, b)); break;
                case "hole": compare(call, args(a, c), real.hole(a, c), model.hole(a, c)); break;
                case "map": compare(call, args(a, c), real.map(a, c), model.map(a, c)); break;
                case "point": {
                    int i = near(5);
                    boolean y = upTo(2) == 0;
                    compare(call, args(a, i, y ? 1 : 0), real.point(a, i, y), model.point(a, i, y));
                    break;
                }
                case "set": {
                    int j = near(3);
                    compare(call, args(a, c, j), real.set(a, c, j) ? 1 : 0, model.set(a, c, j) ? 1 : 0);
                    break;
                }
                case "turn": compare(call, args(a, c), real.turn(a, c) ? 1 : 0, model.turn(a, c) ? 1 : 0); break;
                case "pin": {
                    int x = upTo(2) == 0 ? near(10) : near(99);
                    int y = upTo(2) == 0 ? near(10) : near(99);
                    compare(call, args(a, x, y), real.pin(a, x, y) ? 1 : 0, model.pin(a, x, y) ? 1 : 0);
                    break;
                }
                case "bend": compare(call, args(a, b), real.bend(a, b) ? 1 : 0, model.bend(a, b) ? 1 : 0); break;
                case "trace": {
                    int x = place();
                    int y = place();
                    compare(call, args(a, x, y, c), realTrace(a, x, y, c), modelTrace(a, x, y, c));
                    break;
                }
                case "chain": {
                    int arm = upTo(12) == 0 ? -1 - upTo(9) : upTo(7);
                    compare(call, args(arm), real.chain(arm), model.chain(arm));
                    break;
                }
                case "size": compare(call, args(c), real.size(c), model.size(c)); break;
                case "draw": {
                    int x = place();
                    int y = place();
                    compare(call, args(x, y, c), realDraw(x, y, c), modelDraw(x, y, c));
                    break;
                }
                case "outs": compare(call, args(a), real.outs(a), model.outs(a)); break;
                case "fitted": fitted(); break;
                case "see": see(); break;
                case "clear":
                    if (upTo(4) == 0) {
                        compare(call, "()", real.clear() ? 1 : 0, model.clear() ? 1 : 0);
                    }
                    break;
                case "suspects": compare(call, "()", real.suspects(), model.suspects()); break;
                case "crooked": compare(call, args(a), realCrooked(a), modelCrooked(a)); break;
                case "shakes": {
                    int what = near(1);
                    compare(call, args(what), real.shakes(what), model.shakes(what));
                    break;
                }
                case "steadiest": {
                    int what = near(5);
                    compare(call, args(what), real.steadiest(what), model.steadiest(what));
                    break;
                }
                case "sheets": {
                    int reach = upTo(2) == 0 ? near(6) : near(200);
                    compare(call, args(a, reach), real.sheets(a, reach), model.sheets(a, reach));
                    break;
                }
                case "descent": compare(call, args(d), real.descent(d), model.descent(d)); break;
                case "mark": {
                    boolean back = upTo(2) == 0;
                    compare(call, args(c, back ? 1 : 0), real.mark(c, back) ? 1 : 0, model.mark(c, back) ? 1 : 0);
                    break;
                }
                default: {
                    int what = near(4);
                    compare(call, args(what), real.count(what), model.count(what));
                }
            }
        }

        int place() {
            int way = upTo(30);
            return way == 0 ? 10000 : way == 1 ? -10000 : way < 20 ? upTo(100) : upTo(300) - 100;
        }

        /** Mostly what some arms do give, times 1 to 3 above and below. */
        void fitted() {
            int above = near(12);
            int below = near(12);
            if (upTo(3) > 0) {
                above = 1;
                below = 1;
                for (Rod r : model.now.rods) {
                    if (upTo(2) == 0 && above < 100 && below < 100) {
                        above *= r.holes.get(upTo(r.holes.size()));
                        below *= r.holes.get(upTo(r.holes.size()));
                    }
                }
                int more = 1 + upTo(3);
                above *= more;
                below *= more;
            }
            int what = near(2);
            compare("fitted", args(above, below, what), real.fitted(above, below, what), model.fitted(above, below, what));
        }

        /** Mostly where some arm does draw the corner, if that is a whole number. */
        void see() {
            int corner = near(3);
            int x = upTo(9) == 0 ? 1000 - upTo(2) : upTo(40) - 20;
            int y = upTo(9) == 0 ? upTo(2) - 1000 : upTo(40) - 20;
            if (corner >= 0 && corner < 4 && !model.now.rods.isEmpty() && upTo(5) > 0) {
                Rod r = model.now.rods.get(upTo(model.now.rods.size()));
                int[][] square = {{0, 0}, {10, 0}, {10, 10}, {0, 10}};
                Frac[] at = {Frac.of(square[corner][0], 1), Frac.of(square[corner][1], 1)};
                for (int tried = 0; tried < 19; tried++) {
                    Frac[] to = model.copyOf(r, at, upTo(19) - 9, true);
                    if (to[0].d.equals(BigInteger.ONE) && to[1].d.equals(BigInteger.ONE)) {
                        x = to[0].n.intValue();
                        y = to[1].n.intValue();
                    }
                }
            }
            compare("see", args(corner, x, y), real.see(corner, x, y) ? 1 : 0, model.see(corner, x, y) ? 1 : 0);
        }

        long realTrace(int a, int x, int y, int what) {
            try {
                return real.trace(a, x, y, what);
            } catch (NoSuchElementException e) {
                return THROWN;
            }
        }

        long modelTrace(int a, int x, int y, int what) {
            try {
                return model.trace(a, x, y, what);
            } catch (NoSuchElementException e) {
                return THROWN;
            }
        }

        long realDraw(int x, int y, int what) {
            try {
                return real.draw(x, y, what);
            } catch (NoSuchElementException e) {
                return THROWN;
            }
        }

        long modelDraw(int x, int y, int what) {
            try {
                return model.drawn(model.now.chain, x, y, what);
            } catch (NoSuchElementException e) {
                return THROWN;
            }
        }

        long realCrooked(int a) {
            try {
                return real.crooked(a);
            } catch (NoSuchElementException e) {
                return THROWN;
            }
        }

        long modelCrooked(int a) {
            try {
                return model.crooked(a);
            } catch (NoSuchElementException e) {
                return THROWN;
            }
        }

        static String args(int... numbers) {
            return Arrays.toString(numbers).replace('[', '(').replace(']', ')');
        }

        void compare(String call, String args, long got, long due) {
            calls++;
            compared++;
            told.add(call + args + " = " + (got == THROWN ? "throws" : "" + got));
            if (due != -1 && due != THROWN && !(due == 0 && List.of("set", "turn", "pin", "bend", "mark", "see").contains(call))) {
                ANSWERED.merge(call, 1, Integer::sum);
            }
            if (got != due) {
                wrong++;
                System.out.println("seed " + seed + ", call " + calls + ": " + call + args + " answered " + got + ", due is " + due);
            }
        }
    }
}
