import java.util.Arrays;

/** Cells of the nonnegative Grassmannian. Words in capitals are those of ../shared/DOC.md. */
public final class GrassCells {
    public static final int NONE = -1;

    private static final int LACKING = -2;
    private static final int LABELS = 8;
    private static final int SUBSETS = 256;
    private static final int MOST_BASES = 70;
    private static final int TAPE_BYTES = 160;
    private static final int FED_BYTES = 20;
    private static final int MOST_ACTS = 20;
    private static final int SHELVES = 4;

    private final Reader reader = new Reader();
    private final Cell live = new Cell();
    private final Collection clusterNow = new Collection();
    private final Neighbours neighbours = new Neighbours();
    private final Past past = new Past();
    private final Census census = new Census();
    private final Shelf[] shelves = new Shelf[SHELVES];
    private final int[] scratch = new int[LABELS + 1];

    public GrassCells() {
        for (int shelf = 0; shelf < SHELVES; shelf++) {
            shelves[shelf] = new Shelf();
        }
    }

    // ---- the TAPE ----

    public int feed(int a, int b, int c, int d, int e) {
        if (reader.tape.size + FED_BYTES > TAPE_BYTES) {
            return NONE;
        }
        reader.tape.append(a);
        reader.tape.append(b);
        reader.tape.append(c);
        reader.tape.append(d);
        reader.tape.append(e);
        return reader.tape.size;
    }

    public int end(int n) {
        if (n < 0 || n > reader.tape.size) {
            return NONE;
        }
        reader.tape.size = n;
        return n;
    }

    public int cell() {
        int fault = reader.read();
        reader.tape.size = 0;
        if (fault != 0) {
            return -2 - fault;
        }
        become(reader.n, reader.image);
        return live.n;
    }

    // ---- the CELL, told in three ways ----

    public int f(int i) {
        return live.isLabel(i) ? live.image[i] : NONE;
    }

    public int neck(int i) {
        return live.isLabel(i) ? live.necklace[i] : NONE;
    }

    public int box(int i, int j) {
        if (!live.isLabel(i) || !live.isLabel(j)) {
            return NONE;
        }
        if (!live.diagram.isBox(i, j)) {
            return LACKING;
        }
        return live.diagram.isPlus(i, j) ? 1 : 0;
    }

    // ---- BASES ----

    public int bases() {
        return live.n > 0 ? live.baseCount : NONE;
    }

    public int basis(int k) {
        if (live.n == 0 || k < 0) {
            return NONE;
        }
        return k < live.baseCount ? live.baseList[k] : LACKING;
    }

    public int rank(int labels) {
        return live.areLabels(labels) ? live.rankOf(labels) : NONE;
    }

    public int exchange(int one, int other, int label) {
        if (!live.isBasis(one) || !live.isBasis(other) || !live.isLabel(label)) {
            return NONE;
        }
        if (!Sets.holds(one, label) || Sets.holds(other, label)) {
            return NONE;
        }
        return live.leastExchange(one, other, label);
    }

    public int part(int label) {
        return live.isLabel(label) ? Sets.least(live.hangingTogether(label)) : NONE;
    }

    public long ways(int set) {
        return live.isSet(set) ? live.diagram.waysTo(set) : NONE;
    }

    // ---- SETS that do not CROSS ----

    public int cross(int one, int other) {
        if (!live.isSet(one) || !live.isSet(other)) {
            return NONE;
        }
        return Sets.crossing(one, other, live.n) ? 1 : 0;
    }

    public int cluster(int k) {
        if (live.n == 0 || k < NONE) {
            return NONE;
        }
        if (k == NONE) {
            return clusterNow.count;
        }
        return k < clusterNow.count ? clusterNow.sets[k] : LACKING;
    }

    public int square(int k) {
        if (live.n == 0 || k < NONE) {
            return NONE;
        }
        int found = 0;
        for (int place = 0; place < clusterNow.count; place++) {
            int set = clusterNow.sets[place];
            if (clusterNow.movedFrom(set, live) != LACKING) {
                if (found == k) {
                    return set;
                }
                found++;
            }
        }
        return k == NONE ? found : LACKING;
    }

    public int move(int set) {
        if (live.n == 0) {
            return NONE;
        }
        int moved = clusterNow.movedFrom(set, live);
        if (moved == LACKING) {
            return LACKING;
        }
        past.record(live, clusterNow);
        clusterNow.remove(set);
        clusterNow.add(moved);
        return moved;
    }

    // ---- NEXT ones ----

    public int lower(int k, int i) {
        return valueOfNext(Neighbours.LOWER, k, i);
    }

    public int upper(int k, int i) {
        return valueOfNext(Neighbours.UPPER, k, i);
    }

    public int down(int k) {
        return stepToNext(Neighbours.LOWER, k);
    }

    public int up(int k) {
        return stepToNext(Neighbours.UPPER, k);
    }

    // ---- other ACTS ----

    public boolean turn() {
        if (live.n == 0) {
            return false;
        }
        for (int i = 1; i < live.n; i++) {
            scratch[i + 1] = live.image[i] + 1;
        }
        scratch[1] = live.image[live.n] + 1 - live.n;
        become(live.n, scratch);
        return true;
    }

    public boolean mirror() {
        if (live.n == 0) {
            return false;
        }
        for (int i = 1; i <= live.n; i++) {
            scratch[live.n + 1 - i] = live.n + 1 - live.origin(i);
        }
        become(live.n, scratch);
        return true;
    }

    public boolean complement() {
        if (live.n == 0) {
            return false;
        }
        for (int i = 1; i <= live.n; i++) {
            scratch[i] = live.origin(i) + live.n;
        }
        become(live.n, scratch);
        return true;
    }

    public int undo() {
        if (past.count == 0) {
            return NONE;
        }
        Moment moment = past.takeLast();
        live.take(moment.n, moment.image);
        clusterNow.copyFrom(moment.collection);
        return past.count;
    }

    // ---- counts and SHELVES ----

    public int howMany(int n, int k, int dim) {
        if (n < 2 || n > 7 || k < 0 || k > n || dim < 0) {
            return NONE;
        }
        return census.cells(n, Math.min(k, n - k), dim);
    }

    public int keep(int shelf) {
        if (live.n == 0 || shelf < 0 || shelf >= SHELVES) {
            return NONE;
        }
        shelves[shelf].put(live);
        return live.dimension();
    }

    public int has(int shelf) {
        if (live.n == 0 || shelf < 0 || shelf >= SHELVES) {
            return NONE;
        }
        if (shelves[shelf].n == 0) {
            return LACKING;
        }
        return shelves[shelf].isInClosureOf(live) ? 1 : 0;
    }

    public int count(int what) {
        switch (what) {
            case 7:
                return past.count;
            case 8:
                return filledShelves();
            case 9:
                return reader.tape.size;
            default:
                return live.n > 0 ? countOfLive(what) : NONE;
        }
    }

    // ---- what several calls share ----

    private int countOfLive(int what) {
        switch (what) {
            case 0:
                return live.n;
            case 1:
                return live.size;
            case 2:
                return live.dimension();
            case 3:
                return live.inversions;
            case 4:
                return live.fixedLabels(0);
            case 5:
                return live.fixedLabels(live.n);
            case 6:
                return live.partCount();
            default:
                return NONE;
        }
    }

    private int filledShelves() {
        int filled = 0;
        for (int shelf = 0; shelf < SHELVES; shelf++) {
            if (shelves[shelf].n > 0) {
                filled |= 1 << shelf;
            }
        }
        return filled;
    }

    private int valueOfNext(int moreInversions, int k, int i) {
        if (live.n == 0 || i < 0 || i > live.n) {
            return NONE;
        }
        if (i == 0) {
            return neighbours.howManyFrom(live, moreInversions);
        }
        if (k < 0) {
            return NONE;
        }
        return neighbours.seek(live, moreInversions, k) ? neighbours.image[i] : LACKING;
    }

    private int stepToNext(int moreInversions, int k) {
        if (live.n == 0 || k < 0) {
            return NONE;
        }
        if (!neighbours.seek(live, moreInversions, k)) {
            return LACKING;
        }
        become(live.n, neighbours.image);
        return live.dimension();
    }

    // An ACT that tells or changes the CELL: also where the CELL turns into itself, the CLUSTER is laid anew.
    private void become(int n, int[] image) {
        past.record(live, clusterNow);
        live.take(n, image);
        clusterNow.layFor(live);
    }

    // ---- classes ----

    /** SETS as bits, label 1 the lowest. */
    private static final class Sets {
        static int only(int label) {
            return 1 << (label - 1);
        }

        static int upTo(int label) {
            return (1 << label) - 1;
        }

        static boolean holds(int set, int label) {
            return (set >> (label - 1) & 1) != 0;
        }

        static int least(int set) {
            return Integer.numberOfTrailingZeros(set) + 1;
        }

        static boolean atLeast(int set, int other, int from, int n) {
            int lead = 0;
            for (int step = 0; step < n; step++) {
                int label = from + step <= n ? from + step : from + step - n;
                lead += (set >> (label - 1) & 1) - (other >> (label - 1) & 1);
                if (lead > 0) {
                    return false;
                }
            }
            return true;
        }

        // Labels of one SET alone and of the other alone must change about three times between 1 and N.
        static boolean crossing(int one, int other, int n) {
            int differing = one ^ other;
            int changes = 0;
            boolean started = false;
            boolean lastOfOne = false;
            for (int label = 1; label <= n; label++) {
                if (holds(differing, label)) {
                    boolean ofOne = holds(one, label);
                    if (started && ofOne != lastOfOne) {
                        changes++;
                    }
                    started = true;
                    lastOfOne = ofOne;
                }
            }
            return changes >= 3;
        }

        static boolean canStandBehind(int set, int i, int next) {
            if (!holds(set, i)) {
                return next == set;
            }
            int rest = set & ~only(i);
            return (next & rest) == rest && Integer.bitCount(next) == Integer.bitCount(set);
        }
    }

    /** The bytes that a CELL is told from. */
    private static final class Tape {
        final int[] bytes = new int[TAPE_BYTES];
        int size;

        void append(int number) {
            for (int shift = 24; shift >= 0 && size < TAPE_BYTES; shift -= 8) {
                bytes[size] = number >>> shift & 255;
                size++;
            }
        }

        // NONE, like no byte, stands behind the last one.
        int at(int place) {
            return place >= 0 && place < size ? bytes[place] : NONE;
        }

        boolean isDigit(int place) {
            return at(place) >= '0' && at(place) <= '9';
        }

        boolean isSmallLetter(int place) {
            return at(place) >= 'a' && at(place) <= 'z';
        }

        int fourBytes(int place) {
            return at(place) << 24 | at(place + 1) << 16 | at(place + 2) << 8 | at(place + 3);
        }
    }

    /** Reads the TAPE into F, or finds its FAULT. */
    private static final class Reader {
        private static final int PERM = 'p' << 24 | 'e' << 16 | 'r' << 8 | 'm';
        private static final int FILL = 'f' << 24 | 'i' << 16 | 'l' << 8 | 'l';
        private static final int NECK = 'n' << 24 | 'e' << 16 | 'c' << 8 | 'k';
        private static final int CANNOT_STAND = 1;
        private static final int OUT_OF_RANGE = 2;
        private static final int NOT_FITTING = 3;

        final Tape tape = new Tape();
        private final Diagram diagram = new Diagram();
        private final int[] sets = new int[LABELS + 1];
        private final int[] begins = new int[LABELS + 1];
        private int place;
        private int size;
        final int[] image = new int[LABELS + 1];
        int n;

        int read() {
            place = 0;
            n = 0;
            size = 0;
            skipBlanks();
            int from = place;
            while (place < tape.size && tape.isSmallLetter(place)) {
                place++;
            }
            int word = place - from == 4 ? tape.fourBytes(from) : 0;
            skipBlanks();
            switch (word) {
                case PERM:
                    return readNumbers();
                case FILL:
                    return readFilling();
                case NECK:
                    return readSets();
                default:
                    return fault(from, CANNOT_STAND);
            }
        }

        private int fault(int at, int kind) {
            return 8 * at + kind;
        }

        private void skipBlanks() {
            while (place < tape.size && tape.at(place) == ' ') {
                place++;
            }
        }

        private int readNumbers() {
            for (n = 0; place < tape.size; n++) {
                if (n == LABELS || !readNumber(n + 1)) {
                    return fault(place, CANNOT_STAND);
                }
                skipBlanks();
            }
            return n < 2 ? fault(place, CANNOT_STAND) : faultOfNumbers();
        }

        // A NUMBER of three digits is at fault where it begins: the place stays there.
        private boolean readNumber(int i) {
            int digits = 0;
            int value = 0;
            while (digits < 3 && tape.isDigit(place + digits)) {
                value = 10 * value + tape.at(place + digits) - '0';
                digits++;
            }
            if (digits == 0 || digits == 3) {
                return false;
            }
            image[i] = value;
            begins[i] = place;
            place += digits;
            return true;
        }

        private int faultOfNumbers() {
            for (int i = 1; i <= n; i++) {
                if (image[i] == 0 || image[i] > 2 * LABELS) {
                    return fault(begins[i], OUT_OF_RANGE);
                }
            }
            int taken = 0;
            for (int i = 1; i <= n; i++) {
                if (image[i] < i || image[i] > i + n) {
                    return fault(begins[i], NOT_FITTING);
                }
                int residue = Sets.only(image[i] > n ? image[i] - n : image[i]);
                if ((taken & residue) != 0) {
                    return fault(begins[i], NOT_FITTING);
                }
                taken |= residue;
            }
            return 0;
        }

        private int readFilling() {
            if (!readPath()) {
                return fault(place, CANNOT_STAND);
            }
            for (int i = 1; i <= n; i++) {
                if (Sets.holds(diagram.first, i) && !readRow(i)) {
                    return fault(place, CANNOT_STAND);
                }
            }
            skipBlanks();
            return place < tape.size ? fault(place, CANNOT_STAND) : faultOfBoxes();
        }

        private boolean isLetterOfPath() {
            return tape.at(place) == 'd' || tape.at(place) == 'l';
        }

        private boolean readPath() {
            int first = 0;
            for (n = 0; n < LABELS && isLetterOfPath(); n++) {
                if (tape.at(place) == 'd') {
                    first |= Sets.only(n + 1);
                }
                place++;
            }
            diagram.clear(n, first);
            return n >= 2 && !isLetterOfPath();
        }

        private boolean readRow(int i) {
            skipBlanks();
            if (tape.at(place) != '/') {
                return false;
            }
            place++;
            skipBlanks();
            begins[i] = place;
            for (int j = n; j > i; j--) {
                if (diagram.isBox(i, j)) {
                    if (tape.at(place) == '+') {
                        diagram.setPlus(i, j);
                    } else if (tape.at(place) != '0') {
                        return false;
                    }
                    place++;
                }
            }
            return true;
        }

        private int faultOfBoxes() {
            for (int i = 1; i <= n; i++) {
                int sign = begins[i];
                for (int j = n; j > i; j--) {
                    if (diagram.isBox(i, j)) {
                        if (diagram.breaksLe(i, j)) {
                            return fault(sign, NOT_FITTING);
                        }
                        sign++;
                    }
                }
            }
            for (int i = 1; i <= n; i++) {
                image[i] = diagram.imageOf(i);
            }
            return 0;
        }

        private int readSets() {
            for (n = 0; place < tape.size; n++) {
                if (n == LABELS || !readSet(n + 1)) {
                    return fault(place, CANNOT_STAND);
                }
                skipBlanks();
            }
            return n < 2 ? fault(place, CANNOT_STAND) : faultOfSets();
        }

        // Digits that stand together are of one SET: the first one's end where they end tells K.
        private boolean readSet(int i) {
            int most = i == 1 ? LABELS : size;
            int digits = 0;
            int last = 0;
            begins[i] = place;
            sets[i] = 0;
            while (digits < most && tape.isDigit(place)) {
                int label = tape.at(place) - '0';
                if (label <= last || label > LABELS) {
                    return false;
                }
                sets[i] |= Sets.only(label);
                last = label;
                digits++;
                place++;
            }
            if (i == 1) {
                size = digits;
            }
            return digits > 0 && digits == size && !tape.isDigit(place);
        }

        private int faultOfSets() {
            for (int i = 1; i <= n; i++) {
                int within = sets[i] & Sets.upTo(n);
                if (within != sets[i]) {
                    return fault(begins[i] + Integer.bitCount(within), OUT_OF_RANGE);
                }
            }
            for (int i = 2; i <= n; i++) {
                if (!Sets.canStandBehind(sets[i - 1], i - 1, sets[i])) {
                    return fault(begins[i], NOT_FITTING);
                }
            }
            if (!Sets.canStandBehind(sets[n], n, sets[1])) {
                return fault(begins[n], NOT_FITTING);
            }
            for (int i = 1; i <= n; i++) {
                image[i] = imageBetween(sets[i], i, sets[i < n ? i + 1 : 1]);
            }
            return 0;
        }

        private int imageBetween(int set, int i, int next) {
            if (!Sets.holds(set, i)) {
                return i;
            }
            int anew = Sets.least(next & ~(set & ~Sets.only(i)));
            return anew > i ? anew : anew + n;
        }
    }

    /** A filled diagram. */
    private static final class Diagram {
        private int n;
        int first;
        // the labels j of the BOXES (i, j) with +, as bits
        private final int[] plus = new int[LABELS + 1];
        private final int[] atLeft = new int[LABELS + 1];
        private final int[] atTop = new int[LABELS + 1];
        private final long[] below = new long[LABELS + 1];
        private final long[][] paths = new long[LABELS + 1][LABELS + 1];
        private final long[] minors = new long[SUBSETS];

        void clear(int labels, int firstSet) {
            n = labels;
            first = firstSet;
            Arrays.fill(plus, 0);
        }

        boolean isBox(int i, int j) {
            return i < j && Sets.holds(first, i) && !Sets.holds(first, j);
        }

        boolean isPlus(int i, int j) {
            return Sets.holds(plus[i], j);
        }

        void setPlus(int i, int j) {
            plus[i] |= Sets.only(j);
        }

        boolean breaksLe(int i, int j) {
            if (isPlus(i, j) || plus[i] >> j == 0) {
                return false;
            }
            for (int h = 1; h < i; h++) {
                if (isPlus(h, j)) {
                    return true;
                }
            }
            return false;
        }

        // Each step enters one BOX further left or further up, or goes out.
        int imageOf(int label) {
            boolean leftwards = Sets.holds(first, label);
            int row = label;
            int column = label;
            for (int step = 0; step <= 2 * n; step++) {
                if (leftwards) {
                    column = nextColumn(column);
                    if (column > n) {
                        return row <= label ? row + n : row;
                    }
                } else {
                    row = rowAbove(row);
                    if (row < 1) {
                        return column < label ? column + n : column;
                    }
                }
                if (isPlus(row, column)) {
                    leftwards = !leftwards;
                }
            }
            return label;
        }

        private int nextColumn(int column) {
            int next = column + 1;
            while (next <= n && Sets.holds(first, next)) {
                next++;
            }
            return next;
        }

        private int rowAbove(int row) {
            int next = row - 1;
            while (next >= 1 && !Sets.holds(first, next)) {
                next--;
            }
            return next;
        }

        // From the upper left on: two ways that meet in a BOX turned about have gone straight on there (0), since
        // in a LE diagram such ones never meet at a + (any more, coming from the labels).
        void drawFor(Cell cell) {
            clear(cell.n, cell.necklace[1]);
            for (int i = 1; i <= n; i++) {
                int target = cell.image[i] > n ? cell.image[i] - n : cell.image[i];
                atLeft[target] = i;
                atTop[target] = i;
            }
            for (int i = 1; i <= n; i++) {
                for (int j = n; j > i; j--) {
                    if (isBox(i, j) && atTop[j] < atLeft[i]) {
                        setPlus(i, j);
                        int turning = atLeft[i];
                        atLeft[i] = atTop[j];
                        atTop[j] = turning;
                    }
                }
            }
        }

        int plusCount() {
            int all = 0;
            for (int i = 1; i <= n; i++) {
                all += Integer.bitCount(plus[i]);
            }
            return all;
        }

        // Paths that do not meet pair their ends in one way only, so all terms left in the determinant of the numbers
        // of single paths have one sign.
        long waysTo(int set) {
            int from = first & ~set;
            int to = set & ~first;
            for (int j = 1; j <= n; j++) {
                if (Sets.holds(to, j)) {
                    countPathsTo(j);
                }
            }
            Arrays.fill(minors, 0);
            minors[0] = 1;
            int rows = 0;
            for (int i = 1; i <= n; i++) {
                if (Sets.holds(from, i)) {
                    expandRow(i, to, rows);
                    rows++;
                }
            }
            return Math.abs(minors[to]);
        }

        private void expandRow(int i, int to, int rows) {
            for (int done = 0; done <= to; done++) {
                if ((done & ~to) == 0 && Integer.bitCount(done) == rows) {
                    for (int j = i + 1; j <= n; j++) {
                        if (Sets.holds(to & ~done, j)) {
                            long term = minors[done] * paths[i][j];
                            boolean odd = (Integer.bitCount(done >> j) & 1) != 0;
                            minors[done | Sets.only(j)] += odd ? -term : term;
                        }
                    }
                }
            }
        }

        private void countPathsTo(int end) {
            Arrays.fill(below, 0);
            below[end] = 1;
            for (int i = n; i >= 1; i--) {
                long toTheLeft = 0;
                for (int j = n; j > i; j--) {
                    if (isPlus(i, j)) {
                        toTheLeft += below[j];
                        below[j] = toTheLeft;
                    }
                }
                paths[i][end] = toTheLeft;
            }
        }
    }

    /** F, and what follows from it; no CELL while N is 0. */
    private static final class Cell {
        int n;
        int size;
        int inversions;
        int baseCount;
        final int[] image = new int[LABELS + 1];
        final int[] necklace = new int[LABELS + 1];
        final int[] baseList = new int[MOST_BASES];
        final Diagram diagram = new Diagram();
        private final boolean[] inBases = new boolean[SUBSETS];

        void take(int labels, int[] images) {
            n = labels;
            for (int i = 1; i <= n; i++) {
                image[i] = images[i];
            }
            layNecklace();
            layBases();
            inversions = inversionsOf(image, n);
            diagram.drawFor(this);
        }

        private void layNecklace() {
            int set = 0;
            for (int i = 1; i <= n; i++) {
                if (image[i] > n) {
                    set |= Sets.only(image[i] - n);
                }
            }
            size = Integer.bitCount(set);
            necklace[1] = set;
            for (int i = 1; i < n; i++) {
                if (image[i] != i) {
                    int label = image[i] > n ? image[i] - n : image[i];
                    set = set & ~Sets.only(i) | Sets.only(label);
                }
                necklace[i + 1] = set;
            }
        }

        private void layBases() {
            baseCount = 0;
            for (int set = 0; set < SUBSETS; set++) {
                inBases[set] = isSet(set) && isAtLeastNecklace(set);
                if (inBases[set] && baseCount < MOST_BASES) {
                    baseList[baseCount] = set;
                    baseCount++;
                }
            }
        }

        private boolean isAtLeastNecklace(int set) {
            for (int i = 1; i <= n; i++) {
                if (!Sets.atLeast(set, necklace[i], i, n)) {
                    return false;
                }
            }
            return true;
        }

        static int inversionsOf(int[] images, int n) {
            int all = 0;
            for (int i = 1; i <= n; i++) {
                for (int j = i + 1; j <= n; j++) {
                    all += images[i] > images[j] ? 1 : 0;
                }
                for (int j = 1; j < i; j++) {
                    all += images[i] > images[j] + n ? 1 : 0;
                }
            }
            return all;
        }

        int dimension() {
            return diagram.plusCount();
        }

        boolean isLabel(int label) {
            return label >= 1 && label <= n;
        }

        boolean areLabels(int labels) {
            return n > 0 && labels >= 0 && labels <= Sets.upTo(n);
        }

        boolean isSet(int set) {
            return areLabels(set) && Integer.bitCount(set) == size;
        }

        boolean isBasis(int set) {
            return areLabels(set) && inBases[set];
        }

        boolean isOfNecklace(int set) {
            for (int i = 1; i <= n; i++) {
                if (necklace[i] == set) {
                    return true;
                }
            }
            return false;
        }

        int rankOf(int labels) {
            int most = 0;
            for (int k = 0; k < baseCount; k++) {
                most = Math.max(most, Integer.bitCount(baseList[k] & labels));
            }
            return most;
        }

        int leastExchange(int one, int other, int label) {
            for (int b = 1; b <= n; b++) {
                if (Sets.holds(other & ~one, b) && isBasis(one & ~Sets.only(label) | Sets.only(b))) {
                    return b;
                }
            }
            return LACKING;
        }

        int hangingTogether(int label) {
            int reached = Sets.only(label);
            int followed = 0;
            for (int round = 0; round < n && reached != followed; round++) {
                int from = Sets.least(reached & ~followed);
                followed |= Sets.only(from);
                reached |= exchangeable(from);
            }
            return reached;
        }

        private int exchangeable(int label) {
            int found = 0;
            for (int k = 0; k < baseCount; k++) {
                if (Sets.holds(baseList[k], label)) {
                    for (int b = 1; b <= n; b++) {
                        if (!Sets.holds(baseList[k] | found, b)
                                && isBasis(baseList[k] & ~Sets.only(label) | Sets.only(b))) {
                            found |= Sets.only(b);
                        }
                    }
                }
            }
            return found;
        }

        int partCount() {
            int seen = 0;
            int parts = 0;
            for (int label = 1; label <= n; label++) {
                if (!Sets.holds(seen, label)) {
                    seen |= hangingTogether(label);
                    parts++;
                }
            }
            return parts;
        }

        // LOOPS are the labels that F leaves, COLOOPS those that it puts N further.
        int fixedLabels(int further) {
            int fixed = 0;
            for (int i = 1; i <= n; i++) {
                if (image[i] == i + further) {
                    fixed |= Sets.only(i);
                }
            }
            return fixed;
        }

        // The place, perhaps 0 or below, that F takes to the label.
        int origin(int label) {
            for (int i = 1; i <= n; i++) {
                if (image[i] == label) {
                    return i;
                }
                if (image[i] == label + n) {
                    return i - n;
                }
            }
            return label;
        }
    }

    /** SETS in the order of their numbers: a CLUSTER. */
    private static final class Collection {
        final int[] sets = new int[MOST_BASES];
        int count;

        void layFor(Cell cell) {
            count = 0;
            for (int i = 1; i <= cell.n; i++) {
                add(cell.necklace[i]);
            }
            for (int k = 0; k < cell.baseCount; k++) {
                if (crossesNone(cell.baseList[k], cell.n)) {
                    add(cell.baseList[k]);
                }
            }
        }

        void copyFrom(Collection other) {
            count = other.count;
            for (int place = 0; place < count; place++) {
                sets[place] = other.sets[place];
            }
        }

        private boolean crossesNone(int set, int n) {
            for (int place = 0; place < count; place++) {
                if (Sets.crossing(set, sets[place], n)) {
                    return false;
                }
            }
            return true;
        }

        private boolean contains(int set) {
            for (int place = 0; place < count; place++) {
                if (sets[place] == set) {
                    return true;
                }
            }
            return false;
        }

        void add(int set) {
            if (count >= MOST_BASES || contains(set)) {
                return;
            }
            int place = count;
            while (place > 0 && sets[place - 1] > set) {
                sets[place] = sets[place - 1];
                place--;
            }
            sets[place] = set;
            count++;
        }

        void remove(int set) {
            int left = 0;
            for (int place = 0; place < count; place++) {
                if (sets[place] != set) {
                    sets[left] = sets[place];
                    left++;
                }
            }
            count = left;
        }

        // The SET that the MOVE at a SET puts in its place; LACKING, if there is no SQUARE.
        int movedFrom(int set, Cell cell) {
            if (!contains(set) || cell.isOfNecklace(set)) {
                return LACKING;
            }
            for (int a = 1; a <= cell.n; a++) {
                for (int c = a + 2; c <= cell.n; c++) {
                    if (Sets.holds(set, a) && Sets.holds(set, c)) {
                        int moved = movedAt(set, a, c, cell.n);
                        if (moved != LACKING) {
                            return moved;
                        }
                    }
                }
            }
            return LACKING;
        }

        private int movedAt(int set, int a, int c, int n) {
            int rest = set & ~Sets.only(a) & ~Sets.only(c);
            for (int b = a + 1; b < c; b++) {
                for (int d = 1; d <= n; d++) {
                    boolean outside = d < a || d > c;
                    if (outside && !Sets.holds(set, b) && !Sets.holds(set, d) && hasCorners(rest, a, b, c, d)) {
                        return rest | Sets.only(b) | Sets.only(d);
                    }
                }
            }
            return LACKING;
        }

        private boolean hasCorners(int rest, int a, int b, int c, int d) {
            return contains(rest | Sets.only(a) | Sets.only(b))
                    && contains(rest | Sets.only(b) | Sets.only(c))
                    && contains(rest | Sets.only(c) | Sets.only(d))
                    && contains(rest | Sets.only(a) | Sets.only(d));
        }
    }

    /** Goes through the NEXT ones of a CELL. */
    private static final class Neighbours {
        // one DIM less is one of the INVERSIONS more
        static final int LOWER = 1;
        static final int UPPER = -1;

        final int[] image = new int[LABELS + 1];
        private int found;

        int howManyFrom(Cell cell, int moreInversions) {
            seek(cell, moreInversions, NONE);
            return found;
        }

        // Leaves F of the wanted one (0 the first) in image, if there is one.
        boolean seek(Cell cell, int moreInversions, int wanted) {
            found = 0;
            for (int i = 1; i <= cell.n; i++) {
                for (int j = i + 1; j < i + cell.n; j++) {
                    if (swap(cell, i, j)
                            && Cell.inversionsOf(image, cell.n) == cell.inversions + moreInversions) {
                        if (found == wanted) {
                            return true;
                        }
                        found++;
                    }
                }
            }
            return false;
        }

        private boolean swap(Cell cell, int i, int j) {
            int beyond = j > cell.n ? cell.n : 0;
            int label = j - beyond;
            int atI = cell.image[label] + beyond;
            int atLabel = cell.image[i] - beyond;
            if (atI < i || atI > i + cell.n || atLabel < label || atLabel > label + cell.n) {
                return false;
            }
            for (int m = 1; m <= cell.n; m++) {
                image[m] = cell.image[m];
            }
            image[i] = atI;
            image[label] = atLabel;
            return true;
        }
    }

    /** A CELL and its CLUSTER as they were before an ACT. */
    private static final class Moment {
        final int[] image = new int[LABELS + 1];
        final Collection collection = new Collection();
        int n;
    }

    /** The last moments, the oldest of which gives way. */
    private static final class Past {
        private final Moment[] ring = new Moment[MOST_ACTS];
        private int newest;
        int count;

        Past() {
            for (int place = 0; place < MOST_ACTS; place++) {
                ring[place] = new Moment();
            }
        }

        void record(Cell cell, Collection collection) {
            newest = newest + 1 < MOST_ACTS ? newest + 1 : 0;
            count = Math.min(count + 1, MOST_ACTS);
            Moment moment = ring[newest];
            moment.n = cell.n;
            for (int i = 1; i <= cell.n; i++) {
                moment.image[i] = cell.image[i];
            }
            moment.collection.copyFrom(collection);
        }

        // Only while there are some.
        Moment takeLast() {
            Moment moment = ring[newest];
            newest = newest > 0 ? newest - 1 : MOST_ACTS - 1;
            count--;
            return moment;
        }
    }

    /** The BASES of a CELL that is KEPT; nothing, while N is 0. */
    private static final class Shelf {
        int n;
        private int size;
        private int baseCount;
        private final int[] baseList = new int[MOST_BASES];

        void put(Cell cell) {
            n = cell.n;
            size = cell.size;
            baseCount = cell.baseCount;
            for (int k = 0; k < baseCount; k++) {
                baseList[k] = cell.baseList[k];
            }
        }

        boolean isInClosureOf(Cell cell) {
            if (n != cell.n || size != cell.size) {
                return false;
            }
            for (int k = 0; k < baseCount; k++) {
                if (!cell.isBasis(baseList[k])) {
                    return false;
                }
            }
            return true;
        }
    }

    /**
     * Counts LE diagrams with at most three rows, columns from the left on. A state is a leading 1 and behind it a bit
     * for each row that goes on (the topmost row the lowest bit): whether it has a + so far.
     */
    private static final class Census {
        private static final int STATES = 16;
        private static final int DIMS = 13;

        private int[][] now = new int[STATES][DIMS];
        private int[][] then = new int[STATES][DIMS];

        int cells(int n, int rows, int dim) {
            if (dim >= DIMS) {
                return 0;
            }
            clearThen();
            flip();
            now[1 << rows][0] = 1;
            for (int label = n; label >= 1; label--) {
                clearThen();
                for (int state = 1; state < STATES; state++) {
                    endLowestRow(state);
                    addColumn(state);
                }
                flip();
            }
            return now[1][dim];
        }

        private void flip() {
            int[][] last = now;
            now = then;
            then = last;
        }

        private void clearThen() {
            for (int state = 0; state < STATES; state++) {
                Arrays.fill(then[state], 0);
            }
        }

        private void endLowestRow(int state) {
            int leading = Integer.highestOneBit(state);
            if (leading > 1) {
                int left = leading >> 1;
                pass(state, left | state & (left - 1), 0);
            }
        }

        private void addColumn(int state) {
            int leading = Integer.highestOneBit(state);
            for (int plus = 0; plus < leading; plus++) {
                int fromTopmostDown = -(plus & -plus);
                if (plus == 0 || (state & (leading - 1) & ~plus & fromTopmostDown) == 0) {
                    pass(state, state | plus, Integer.bitCount(plus));
                }
            }
        }

        private void pass(int state, int next, int more) {
            for (int dim = 0; dim + more < DIMS; dim++) {
                then[next][dim + more] += now[state][dim];
            }
        }
    }
}
