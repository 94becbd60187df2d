import java.util.ArrayDeque;
import java.util.ArrayList;
import java.util.Arrays;
import java.util.Deque;
import java.util.HashMap;
import java.util.HashSet;
import java.util.List;
import java.util.Map;
import java.util.Set;
import java.util.TreeSet;
import java.util.regex.Matcher;
import java.util.regex.Pattern;

/**
 * The document's definitions taken one by one, as slowly as they are written: texts by regular expressions, LE diagrams
 * by trying all, MIRROR and COMPLEMENT by BASES, WAYS by walking all paths. The class under test shares no code with
 * it.
 */
final class Model {
    static final int NONE = -1;
    static final int LACKING = -2;

    /** F, and the BASES that follow from it. */
    static final class Told {
        final int n;
        final int[] f;
        final int k;
        final List<Integer> neck = new ArrayList<>();
        final TreeSet<Integer> bases = new TreeSet<>();

        Told(int[] values) {
            n = values.length - 1;
            f = values.clone();
            int set = 0;
            for (int i = 1; i <= n; i++) {
                if (f[i] > n) {
                    set |= 1 << (f[i] - n - 1);
                }
            }
            k = Integer.bitCount(set);
            for (int i = 1; i <= n; i++) {
                neck.add(set);
                if (f[i] != i) {
                    set = set & ~(1 << (i - 1)) | 1 << ((f[i] - 1) % n);
                }
            }
            for (int s = 0; s < 1 << n; s++) {
                if (Integer.bitCount(s) == k && isAtLeastAll(s)) {
                    bases.add(s);
                }
            }
        }

        private boolean isAtLeastAll(int s) {
            for (int i = 1; i <= n; i++) {
                List<Integer> mine = places(s, i);
                List<Integer> other = places(neck.get(i - 1), i);
                for (int t = 0; t < k; t++) {
                    if (mine.get(t) < other.get(t)) {
                        return false;
                    }
                }
            }
            return true;
        }

        // where the labels of a SET stand in the ORDER from r on
        private List<Integer> places(int s, int r) {
            List<Integer> all = new ArrayList<>();
            for (int step = 0; step < n; step++) {
                int label = (r - 1 + step) % n + 1;
                if ((s >> (label - 1) & 1) != 0) {
                    all.add(step);
                }
            }
            return all;
        }

        /** F(x) for any whole x. */
        int at(int x) {
            int round = Math.floorDiv(x - 1, n);
            return f[Math.floorMod(x - 1, n) + 1] + round * n;
        }

        int inversions() {
            int all = 0;
            for (int i = 1; i <= n; i++) {
                for (int j = i + 1; j <= i + 3 * n; j++) {
                    if (at(i) > at(j)) {
                        all++;
                    }
                }
            }
            return all;
        }
    }

    static final class State {
        final Told told;
        final TreeSet<Integer> cluster;

        State(Told told, TreeSet<Integer> cluster) {
            this.told = told;
            this.cluster = cluster;
        }
    }

    private StringBuilder tape = new StringBuilder();
    private Told told = null;
    private TreeSet<Integer> cluster = new TreeSet<>();
    private final Deque<State> past = new ArrayDeque<>();
    private final Told[] shelves = new Told[4];

    // ---- LE diagrams: all of a N and a FIRST SET, found by trying, by the F that they tell ----

    private static final Map<String, Map<String, int[]>> DIAGRAMS = new HashMap<>();

    // plus[i] has the bits of the labels j for which BOX (i, j) has +
    static int[] diagramOf(Told t) {
        int first = t.neck.get(0);
        Map<String, int[]> all = DIAGRAMS.computeIfAbsent(t.n + ":" + first, key -> allDiagrams(t.n, first));
        return all.get(Arrays.toString(t.f));
    }

    static Map<String, int[]> allDiagrams(int n, int first) {
        List<int[]> boxes = new ArrayList<>();
        for (int i = 1; i <= n; i++) {
            for (int j = n; j > i; j--) {
                if (in(first, i) && !in(first, j)) {
                    boxes.add(new int[] {i, j});
                }
            }
        }
        Map<String, int[]> found = new HashMap<>();
        fillFrom(n, first, boxes, 0, new int[n + 1], found);
        return found;
    }

    private static void fillFrom(int n, int first, List<int[]> boxes, int at, int[] plus, Map<String, int[]> found) {
        if (at == boxes.size()) {
            int[] f = new int[n + 1];
            for (int i = 1; i <= n; i++) {
                f[i] = follow(n, first, plus, i);
            }
            if (found.put(Arrays.toString(f), plus.clone()) != null) {
                throw new IllegalStateException("two LE diagrams for one F");
            }
            return;
        }
        int i = boxes.get(at)[0];
        int j = boxes.get(at)[1];
        plus[i] |= 1 << (j - 1);
        fillFrom(n, first, boxes, at + 1, plus, found);
        plus[i] &= ~(1 << (j - 1));
        if (!violates(n, plus, i, j)) {
            fillFrom(n, first, boxes, at + 1, plus, found);
        }
    }

    private static boolean violates(int n, int[] plus, int i, int j) {
        for (int h = 1; h < i; h++) {
            for (int m = j + 1; m <= n; m++) {
                if (in(plus[h], j) && in(plus[i], m)) {
                    return true;
                }
            }
        }
        return false;
    }

    static int follow(int n, int first, int[] plus, int label) {
        List<Integer> rows = new ArrayList<>();
        List<Integer> columns = new ArrayList<>();
        for (int i = 1; i <= n; i++) {
            if (in(first, i)) {
                rows.add(i);
            } else {
                columns.add(0, i);
            }
        }
        // a grid whose cells right of and below the border are free of BOXES: one goes straight on through them
        boolean left = in(first, label);
        int r = left ? rows.indexOf(label) : rows.size() - 1;
        int c = left ? columns.size() - 1 : columns.indexOf(label);
        while (r >= 0 && c >= 0) {
            if (in(plus[rows.get(r)], columns.get(c))) {
                left = !left;
            }
            if (left) {
                c--;
            } else {
                r--;
            }
        }
        int j = c < 0 ? rows.get(r) : columns.get(c);
        return j < label || j == label && in(first, label) ? j + n : j;
    }

    static boolean in(int set, int label) {
        return (set >> (label - 1) & 1) != 0;
    }

    static int bit(int label) {
        return 1 << (label - 1);
    }

    // ---- F from BASES ----

    static Told fromBases(int n, Set<Integer> bases) {
        int[] f = new int[n + 1];
        for (int i = 1; i <= n; i++) {
            int behind = 0;
            int j = i;
            while (j < i + n && rank(bases, behind) != rank(bases, behind | bit(i))) {
                j++;
                if (j < i + n) {
                    behind |= bit((j - 1) % n + 1);
                }
            }
            f[i] = j;
        }
        Told made = new Told(f);
        if (!made.bases.equals(bases)) {
            throw new IllegalStateException("BASES that no CELL has");
        }
        return made;
    }

    static int rank(Set<Integer> bases, int labels) {
        int most = 0;
        for (int b : bases) {
            most = Math.max(most, Integer.bitCount(b & labels));
        }
        return most;
    }

    // ---- texts ----

    private int[] fOfText;

    /** 0, and F in fOfText, or the FAULT. */
    int faultOf(String text) {
        fOfText = null;
        Matcher start = Pattern.compile(" *([a-z]*)").matcher(text);
        start.lookingAt();
        switch (start.group(1)) {
            case "perm":
                return faultOfPerm(text);
            case "fill":
                return faultOfFill(text, start.end());
            case "neck":
                return faultOfNeck(text, start.end());
            default:
                return 8 * start.start(1) + 1;
        }
    }

    // the first place by which no text of the pattern begins like this one; -1, if it is one
    private static int firstOdd(Pattern pattern, String text) {
        if (pattern.matcher(text).matches()) {
            return -1;
        }
        for (int end = 1; end <= text.length(); end++) {
            Matcher m = pattern.matcher(text.substring(0, end));
            if (!m.matches() && !m.hitEnd()) {
                return end - 1;
            }
        }
        return text.length();
    }

    private static List<int[]> runs(String text, String of) {
        List<int[]> all = new ArrayList<>();
        Matcher m = Pattern.compile(of).matcher(text);
        while (m.find()) {
            all.add(new int[] {m.start(), m.end()});
        }
        return all;
    }

    private int faultOfPerm(String text) {
        int odd = firstOdd(Pattern.compile(" *perm *[0-9]{1,2}( +[0-9]{1,2}){1,7} *"), text);
        if (odd >= 0) {
            Matcher three = Pattern.compile("[0-9]{3}").matcher(text);
            if (three.find() && three.end() - 1 == odd) {
                return 8 * three.start() + 1;
            }
            return 8 * odd + 1;
        }
        List<int[]> numbers = runs(text, "[0-9]+");
        int n = numbers.size();
        int[] f = new int[n + 1];
        int[] begins = new int[n + 1];
        for (int i = 1; i <= n; i++) {
            begins[i] = numbers.get(i - 1)[0];
            f[i] = Integer.parseInt(text.substring(begins[i], numbers.get(i - 1)[1]));
        }
        for (int i = 1; i <= n; i++) {
            if (f[i] < 1 || f[i] > 16) {
                return 8 * begins[i] + 2;
            }
        }
        for (int i = 1; i <= n; i++) {
            boolean wrong = f[i] < i || f[i] > i + n;
            for (int h = 1; h < i; h++) {
                wrong |= (f[h] - f[i]) % n == 0;
            }
            if (wrong) {
                return 8 * begins[i] + 3;
            }
        }
        fOfText = f;
        return 0;
    }

    private int faultOfFill(String text, int behindWord) {
        // a word such as "filldl" is none of the three: here the word ends just behind "fill"
        Matcher m = Pattern.compile(" *([dl]*)").matcher(text.substring(behindWord));
        m.lookingAt();
        String path = m.group(1).length() > 8 ? m.group(1).substring(0, 8) : m.group(1);
        StringBuilder rule = new StringBuilder(" *fill *");
        rule.append(path.length() < 2 ? "[dl]{2,8}" : path);
        List<Integer> rows = new ArrayList<>();
        for (int i = 1; i <= path.length(); i++) {
            if (path.charAt(i - 1) == 'd') {
                rows.add(i);
                rule.append(" */ *[+0]{").append(path.substring(i).replace("d", "").length()).append("}");
            }
        }
        int odd = firstOdd(Pattern.compile(rule.append(" *").toString()), text);
        if (odd >= 0) {
            return 8 * odd + 1;
        }
        return readBoxes(text, path, rows);
    }

    private int readBoxes(String text, String path, List<Integer> rows) {
        int n = path.length();
        int[] plus = new int[n + 1];
        int at = text.indexOf('/');
        for (int row : rows) {
            for (int j = n; j > row; j--) {
                if (path.charAt(j - 1) == 'l') {
                    while (text.charAt(at) != '+' && text.charAt(at) != '0') {
                        at++;
                    }
                    if (text.charAt(at) == '+') {
                        plus[row] |= bit(j);
                    } else if (violates(n, plus, row, j)) {
                        return 8 * at + 3;
                    }
                    at++;
                }
            }
        }
        int first = 0;
        for (int row : rows) {
            first |= bit(row);
        }
        fOfText = new int[n + 1];
        for (int i = 1; i <= n; i++) {
            fOfText[i] = follow(n, first, plus, i);
        }
        return 0;
    }

    private int faultOfNeck(String text, int behindWord) {
        Matcher m = Pattern.compile(" *(1?2?3?4?5?6?7?8?)").matcher(text.substring(behindWord));
        m.lookingAt();
        int size = m.group(1).length();
        if (size == 0) {
            return 8 * (behindWord + m.end()) + 1;
        }
        // digits stand or not by the one ahead of them alone, be there room for K of them or not: a byte that no TAPE
        // has makes up for those without room
        StringBuilder sets = new StringBuilder();
        for (int s = 1; s < 256; s++) {
            int lacking = size - Integer.bitCount(s);
            if (lacking >= 0) {
                sets.append(sets.length() == 0 ? "" : "|").append(digits(s)).append("\u0100".repeat(lacking));
            }
        }
        String rule = " *neck *(" + sets + ")( +(" + sets + ")){1,7} *";
        int odd = firstOdd(Pattern.compile(rule), text);
        if (odd >= 0) {
            return 8 * odd + 1;
        }
        return readSets(text);
    }

    static String digits(int set) {
        StringBuilder all = new StringBuilder();
        for (int label = 1; label <= 8; label++) {
            if (in(set, label)) {
                all.append(label);
            }
        }
        return all.toString();
    }

    private int readSets(String text) {
        List<int[]> runs = runs(text, "[0-9]+");
        int n = runs.size();
        int[] set = new int[n + 1];
        int[] begins = new int[n + 1];
        for (int i = 1; i <= n; i++) {
            begins[i] = runs.get(i - 1)[0];
            for (int at = begins[i]; at < runs.get(i - 1)[1]; at++) {
                if (text.charAt(at) - '0' > n) {
                    return 8 * at + 2;
                }
                set[i] |= bit(text.charAt(at) - '0');
            }
        }
        int[] f = new int[n + 1];
        for (int i = 1; i <= n; i++) {
            f[i] = imageBehind(set[i], i, set[i % n + 1], n);
            if (f[i] == 0) {
                return 8 * begins[i < n ? i + 1 : n] + 3;
            }
        }
        fOfText = f;
        return 0;
    }

    // 0, if the next SET can't stand behind this one
    private static int imageBehind(int set, int i, int next, int n) {
        if (!in(set, i)) {
            return next == set ? i : 0;
        }
        for (int x = 1; x <= n; x++) {
            int rest = set & ~bit(i);
            if (!in(rest, x) && next == (rest | bit(x))) {
                return x > i ? x : x + n;
            }
        }
        return 0;
    }

    // ---- the calls ----

    int feed(int a, int b, int c, int d, int e) {
        if (tape.length() + 20 > 160) {
            return NONE;
        }
        for (int number : new int[] {a, b, c, d, e}) {
            for (byte value : java.nio.ByteBuffer.allocate(4).putInt(number).array()) {
                tape.append((char) (value & 255));
            }
        }
        return tape.length();
    }

    int end(int n) {
        if (n < 0 || n > tape.length()) {
            return NONE;
        }
        tape.setLength(n);
        return n;
    }

    int cell() {
        int fault = faultOf(tape.toString());
        tape = new StringBuilder();
        if (fault != 0) {
            return -2 - fault;
        }
        become(new Told(fOfText));
        return told.n;
    }

    private void become(Told next) {
        remember();
        told = next;
        cluster = new TreeSet<>(told.neck);
        for (int b : told.bases) {
            boolean free = true;
            for (int c : cluster) {
                free &= !crossing(b, c, told.n);
            }
            if (free) {
                cluster.add(b);
            }
        }
    }

    private void remember() {
        past.addLast(new State(told, new TreeSet<>(cluster)));
        if (past.size() > 20) {
            past.removeFirst();
        }
    }

    private boolean label(int i) {
        return told != null && i >= 1 && i <= told.n;
    }

    private boolean ofSizeK(int set) {
        return told != null && set >= 0 && set < 1 << told.n && Integer.bitCount(set) == told.k;
    }

    int f(int i) {
        return label(i) ? told.f[i] : NONE;
    }

    int neck(int i) {
        return label(i) ? told.neck.get(i - 1) : NONE;
    }

    int box(int i, int j) {
        if (!label(i) || !label(j)) {
            return NONE;
        }
        int first = told.neck.get(0);
        if (!in(first, i) || in(first, j) || j < i) {
            return LACKING;
        }
        return in(diagramOf(told)[i], j) ? 1 : 0;
    }

    int bases() {
        return told == null ? NONE : told.bases.size();
    }

    int basis(int k) {
        return told == null || k < 0 ? NONE : nth(told.bases, k);
    }

    private static int nth(TreeSet<Integer> sets, int k) {
        return k < sets.size() ? new ArrayList<>(sets).get(k) : LACKING;
    }

    int rank(int labels) {
        return told == null || labels < 0 || labels >= 1 << told.n ? NONE : rank(told.bases, labels);
    }

    int exchange(int one, int other, int a) {
        if (told == null || !told.bases.contains(one) || !told.bases.contains(other) || !label(a)) {
            return NONE;
        }
        if (!in(one, a) || in(other, a)) {
            return NONE;
        }
        for (int b = 1; b <= told.n; b++) {
            if (in(other, b) && !in(one, b) && told.bases.contains(one - bit(a) + bit(b))) {
                return b;
            }
        }
        return LACKING;
    }

    // a SET of labels is a union of PARTS, if its RANK and that of all others are K together
    int part(int wanted) {
        if (!label(wanted)) {
            return NONE;
        }
        int all = (1 << told.n) - 1;
        int part = all;
        for (int s = 0; s <= all; s++) {
            if (in(s, wanted) && rank(told.bases, s) + rank(told.bases, all & ~s) == told.k) {
                part &= s;
            }
        }
        return Integer.numberOfTrailingZeros(part) + 1;
    }

    long ways(int set) {
        if (!ofSizeK(set)) {
            return NONE;
        }
        int first = told.neck.get(0);
        return families(diagramOf(told), first & ~set, set & ~first, new HashSet<>());
    }

    // the ways of all sources from the least on, each BOX through which a path has gone being taken
    private long families(int[] plus, int sources, int sinks, Set<String> taken) {
        if (sources == 0) {
            return 1;
        }
        int i = Integer.numberOfTrailingZeros(sources) + 1;
        return goOn(plus, i, i, true, sources & ~bit(i), sinks, taken);
    }

    // from the BOX (i, j), or from the right of the ROW of i (j is i): left, or else down
    private long goOn(int[] plus, int i, int j, boolean left, int sources, int sinks, Set<String> taken) {
        if (left) {
            for (int m = j + 1; m <= told.n; m++) {
                if (in(plus[i], m)) {
                    return enter(plus, i, m, sources, sinks, taken);
                }
            }
            return 0;
        }
        for (int h = i + 1; h < j; h++) {
            if (in(plus[h], j)) {
                return enter(plus, h, j, sources, sinks, taken);
            }
        }
        return in(sinks, j) ? families(plus, sources, sinks & ~bit(j), taken) : 0;
    }

    private long enter(int[] plus, int i, int j, int sources, int sinks, Set<String> taken) {
        if (!taken.add(i + "," + j)) {
            return 0;
        }
        long all = goOn(plus, i, j, true, sources, sinks, taken) + goOn(plus, i, j, false, sources, sinks, taken);
        taken.remove(i + "," + j);
        return all;
    }

    static boolean crossing(int one, int other, int n) {
        for (int a = 1; a <= n; a++) {
            for (int b = 1; b <= n; b++) {
                for (int c = 1; c <= n; c++) {
                    for (int d = 1; d <= n; d++) {
                        int toB = Math.floorMod(b - a, n);
                        int toC = Math.floorMod(c - a, n);
                        int toD = Math.floorMod(d - a, n);
                        if (0 < toB && toB < toC && toC < toD && in(one & ~other, a) && in(one & ~other, c)
                                && in(other & ~one, b) && in(other & ~one, d)) {
                            return true;
                        }
                    }
                }
            }
        }
        return false;
    }

    int cross(int one, int other) {
        if (!ofSizeK(one) || !ofSizeK(other)) {
            return NONE;
        }
        return crossing(one, other, told.n) ? 1 : 0;
    }

    int cluster(int k) {
        if (told == null || k < NONE) {
            return NONE;
        }
        return k == NONE ? cluster.size() : nth(cluster, k);
    }

    private int moved(int x) {
        if (!cluster.contains(x) || told.neck.contains(x)) {
            return LACKING;
        }
        for (int a = 1; a <= told.n; a++) {
            for (int c = a + 1; c <= told.n; c++) {
                for (int b = a + 1; b < c; b++) {
                    for (int d = 1; d <= told.n; d++) {
                        boolean fits = in(x, a) && in(x, c) && !in(x, b) && !in(x, d) && (d < a || d > c);
                        if (fits && cluster.contains(x - bit(c) + bit(b)) && cluster.contains(x - bit(a) + bit(b))
                                && cluster.contains(x - bit(a) + bit(d)) && cluster.contains(x - bit(c) + bit(d))) {
                            return x - bit(a) - bit(c) + bit(b) + bit(d);
                        }
                    }
                }
            }
        }
        return LACKING;
    }

    int square(int k) {
        if (told == null || k < NONE) {
            return NONE;
        }
        TreeSet<Integer> at = new TreeSet<>();
        for (int x : cluster) {
            if (moved(x) != LACKING) {
                at.add(x);
            }
        }
        return k == NONE ? at.size() : nth(at, k);
    }

    int move(int set) {
        if (told == null) {
            return NONE;
        }
        int in = moved(set);
        if (in != LACKING) {
            remember();
            cluster.remove(set);
            cluster.add(in);
        }
        return in;
    }

    // NEXT ones whose DIM is so much greater
    private List<Told> next(int more) {
        List<Told> found = new ArrayList<>();
        int n = told.n;
        for (int i = 1; i <= n; i++) {
            for (int j = i + 1; j < i + n; j++) {
                int[] f = new int[n + 1];
                boolean bounded = true;
                for (int m = 1; m <= n; m++) {
                    f[m] = told.at(m);
                    if (Math.floorMod(m - i, n) == 0) {
                        f[m] = told.at(m + j - i);
                    } else if (Math.floorMod(m - j, n) == 0) {
                        f[m] = told.at(m + i - j);
                    }
                    bounded &= f[m] >= m && f[m] <= m + n;
                }
                if (bounded) {
                    Told t = new Told(f);
                    if (plusCount(t) == plusCount(told) + more) {
                        found.add(t);
                    }
                }
            }
        }
        return found;
    }

    static int plusCount(Told t) {
        int all = 0;
        for (int row : diagramOf(t)) {
            all += Integer.bitCount(row);
        }
        if (all != t.k * (t.n - t.k) - t.inversions()) {
            throw new IllegalStateException("DIM told in two ways");
        }
        return all;
    }

    private int valueOfNext(int more, int k, int i) {
        if (told == null || i < 0 || i > told.n) {
            return NONE;
        }
        List<Told> all = next(more);
        if (i == 0) {
            return all.size();
        }
        if (k < 0) {
            return NONE;
        }
        return k < all.size() ? all.get(k).f[i] : LACKING;
    }

    int lower(int k, int i) {
        return valueOfNext(-1, k, i);
    }

    int upper(int k, int i) {
        return valueOfNext(1, k, i);
    }

    private int step(int more, int k) {
        if (told == null || k < 0) {
            return NONE;
        }
        List<Told> all = next(more);
        if (k >= all.size()) {
            return LACKING;
        }
        become(all.get(k));
        return plusCount(told);
    }

    int down(int k) {
        return step(-1, k);
    }

    int up(int k) {
        return step(1, k);
    }

    // each label goes to another one, or each SET to what it leaves out (to is null)
    private boolean relabel(int[] to) {
        Set<Integer> bases = new HashSet<>();
        for (int b : told.bases) {
            int image = 0;
            for (int i = 1; i <= told.n; i++) {
                if (to == null ? !in(b, i) : in(b, i)) {
                    image |= bit(to == null ? i : to[i]);
                }
            }
            bases.add(image);
        }
        become(fromBases(told.n, bases));
        return true;
    }

    boolean turn() {
        if (told == null) {
            return false;
        }
        int[] to = new int[told.n + 1];
        for (int i = 1; i <= told.n; i++) {
            to[i] = i % told.n + 1;
        }
        return relabel(to);
    }

    boolean mirror() {
        if (told == null) {
            return false;
        }
        int[] to = new int[told.n + 1];
        for (int i = 1; i <= told.n; i++) {
            to[i] = told.n + 1 - i;
        }
        return relabel(to);
    }

    boolean complement() {
        return told != null && relabel(null);
    }

    int undo() {
        if (past.isEmpty()) {
            return NONE;
        }
        State last = past.removeLast();
        told = last.told;
        cluster = last.cluster;
        return past.size();
    }

    private static final Map<String, Integer> CENSUS = new HashMap<>();

    int howMany(int n, int k, int dim) {
        if (n < 2 || n > 7 || k < 0 || k > n || dim < 0) {
            return NONE;
        }
        if (!CENSUS.containsKey("" + n)) {
            CENSUS.put("" + n, 1);
            countCells(new int[n + 1], 1, 0);
        }
        return CENSUS.getOrDefault(n + "," + k + "," + dim, 0);
    }

    private static void countCells(int[] f, int at, int taken) {
        int n = f.length - 1;
        if (at > n) {
            Told t = new Told(f);
            CENSUS.merge(n + "," + t.k + "," + (t.k * (n - t.k) - t.inversions()), 1, Integer::sum);
            return;
        }
        for (int value = at; value <= at + n; value++) {
            int residue = 1 << value % n;
            if ((taken & residue) == 0) {
                f[at] = value;
                countCells(f, at + 1, taken | residue);
            }
        }
    }

    int keep(int shelf) {
        if (told == null || shelf < 0 || shelf > 3) {
            return NONE;
        }
        shelves[shelf] = told;
        return plusCount(told);
    }

    int has(int shelf) {
        if (told == null || shelf < 0 || shelf > 3) {
            return NONE;
        }
        Told kept = shelves[shelf];
        if (kept == null) {
            return LACKING;
        }
        return kept.n == told.n && kept.k == told.k && told.bases.containsAll(kept.bases) ? 1 : 0;
    }

    int count(int what) {
        if (what >= 7 && what <= 9) {
            int kept = 0;
            for (int s = 0; s < 4; s++) {
                kept |= shelves[s] == null ? 0 : 1 << s;
            }
            return what == 7 ? past.size() : what == 8 ? kept : tape.length();
        }
        if (told == null || what < 0 || what > 9) {
            return NONE;
        }
        int[] of = {told.n, told.k, plusCount(told), told.inversions(), loops(), coloops(), parts()};
        return of[what];
    }

    private int loops() {
        int loops = (1 << told.n) - 1;
        for (int b : told.bases) {
            loops &= ~b;
        }
        return loops;
    }

    private int coloops() {
        int coloops = (1 << told.n) - 1;
        for (int b : told.bases) {
            coloops &= b;
        }
        return coloops;
    }

    private int parts() {
        Set<Integer> leasts = new HashSet<>();
        for (int i = 1; i <= told.n; i++) {
            leasts.add(part(i));
        }
        return leasts.size();
    }
}
