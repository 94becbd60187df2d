import java.util.ArrayList;
import java.util.Arrays;
import java.util.HashMap;
import java.util.List;
import java.util.Map;

/** CELLS of N 2 to 6 against the model (of N 6 one in 16 whole), and laws for all of them and for some of N 7 and 8. */
public final class EveryCellTest {
    private static final int[] CELLS = {0, 0, 5, 16, 65, 326, 1957, 13700, 109601};
    private static final int TELLING = 11;

    private EveryCellTest() {
    }

    public static void main(String[] args) {
        Check.due("no CELL asked", new GrassCells().bases(), -1);
        Compare.all("no CELL", new Fresh(GrassCells::new, 0), new Model());
        for (int n = 2; n <= 6; n++) {
            List<int[]> all = new ArrayList<>();
            list(new int[n + 1], 1, 0, all);
            Check.due("CELLS of " + n, all.size(), CELLS[n]);
            for (int[] f : all) {
                against(f, n);
            }
            sizes(all, n);
        }
        toldInThreeWays(7);
        toldInThreeWays(8);
        Check.close("EveryCellTest");
    }

    static void list(int[] f, int at, int taken, List<int[]> all) {
        int n = f.length - 1;
        if (at > n) {
            all.add(f.clone());
            return;
        }
        for (int value = at; value <= at + n; value++) {
            if ((taken >> value % n & 1) == 0) {
                f[at] = value;
                list(f, at + 1, taken | 1 << value % n, all);
            }
        }
    }

    private static String perm(int[] f) {
        StringBuilder text = new StringBuilder("perm");
        for (int i = 1; i < f.length; i++) {
            text.append(' ').append(f[i]);
        }
        return text.toString();
    }

    private static void against(int[] f, int n) {
        String text = perm(f);
        Model model = new Model();
        for (int from = 0; from < text.length(); from += 20) {
            model.feed(Check.word(text, from), Check.word(text, from + 4), Check.word(text, from + 8),
                    Check.word(text, from + 12), Check.word(text, from + 16));
        }
        model.end(text.length());
        model.cell();
        Fresh told = new Fresh(() -> Check.told(text), TELLING);
        if (n < 6 || Arrays.hashCode(f) % 16 == 0) {
            Compare.all(text, told, model);
        }
        if (n <= 4) {
            Compare.pairs(text, told, model);
        }
        toldAgain(text);
        symmetries(text, Check.told(text), model);
    }

    private static void symmetries(String text, GrassCells x, Model model) {
        x.turn();
        model.turn();
        sameF(text + " turned", x, model);
        x.mirror();
        model.mirror();
        sameF(text + " turned and mirrored", x, model);
        x.complement();
        model.complement();
        sameF(text + " turned, mirrored and complemented", x, model);
        x.undo();
        x.undo();
        Check.due(text + ": undo", x.undo(), 1);
        Check.due(text + " undone", Check.perm(x).equals(text), true);
    }

    private static void sameF(String name, GrassCells x, Model model) {
        for (int i = 1; i <= x.count(0); i++) {
            Check.due(name + ": f(" + i + ")", x.f(i), model.f(i));
        }
    }

    private static void sizes(List<int[]> all, int n) {
        Map<String, Integer> counts = new HashMap<>();
        for (int[] f : all) {
            GrassCells x = Check.told(perm(f));
            counts.merge(x.count(1) + "," + x.count(2), 1, Integer::sum);
        }
        GrassCells x = new GrassCells();
        for (int k = 0; k <= n; k++) {
            for (int dim = 0; dim <= 20; dim++) {
                Check.due("howMany(" + n + ", " + k + ", " + dim + ")", x.howMany(n, k, dim),
                        counts.getOrDefault(k + "," + dim, 0));
            }
        }
    }

    private static void toldInThreeWays(int n) {
        List<int[]> all = new ArrayList<>();
        list(new int[n + 1], 1, 0, all);
        Check.due("CELLS of " + n, all.size(), CELLS[n]);
        for (int at = 0; at < all.size(); at += n == 7 ? 5 : 37) {
            toldAgain(perm(all.get(at)));
        }
    }

    // as a filled diagram and as a NECKLACE a CELL tells itself again; its counts fit each other
    private static void toldAgain(String text) {
        GrassCells x = Check.told(text);
        int n = x.count(0);
        Check.due(text + ": F again", Check.perm(x).equals(text), true);
        Check.due(text + ": F of " + fill(x), Check.perm(Check.told(fill(x))).equals(text), true);
        if (x.count(1) > 0) {
            Check.due(text + ": F of " + neck(x), Check.perm(Check.told(neck(x))).equals(text), true);
        }
        Check.due(text + ": DIM and INVERSIONS", x.count(2) + x.count(3), x.count(1) * (n - x.count(1)));
        Check.due(text + ": SETS of the CLUSTER", x.cluster(-1), x.count(2) + 1);
        threeTerms(text);
    }

    private static String fill(GrassCells x) {
        int n = x.count(0);
        StringBuilder path = new StringBuilder("fill ");
        StringBuilder rows = new StringBuilder();
        for (int i = 1; i <= n; i++) {
            boolean first = (x.neck(1) >> (i - 1) & 1) != 0;
            path.append(first ? 'd' : 'l');
            rows.append(first ? "/" : "");
            for (int j = n; j > i; j--) {
                if (x.box(i, j) >= 0) {
                    rows.append(x.box(i, j) == 1 ? '+' : '0');
                }
            }
        }
        return path.append(rows).toString();
    }

    private static String neck(GrassCells x) {
        StringBuilder text = new StringBuilder("neck");
        for (int i = 1; i <= x.count(0); i++) {
            text.append(' ').append(Model.digits(x.neck(i)));
        }
        return text.toString();
    }

    // WAYS of S with ac times S with bd: S with ab times S with cd, and S with ad times S with bc
    private static void threeTerms(String text) {
        GrassCells x = Check.told(text);
        int size = x.count(1);
        long[] ways = new long[1 << x.count(0)];
        int all = 0;
        for (int set = 0; set < ways.length; set++) {
            ways[set] = x.ways(set);
            all += ways[set] > 0 ? 1 : 0;
        }
        Check.due(text + ": SETS with WAYS", all, x.bases());
        for (int set = 0; set < ways.length; set++) {
            if (Integer.bitCount(set) == size - 2) {
                for (int a = 1; a < ways.length; a *= 2) {
                    for (int b = 2 * a; b < ways.length; b *= 2) {
                        threeTerms(text, ways, set, a, b);
                    }
                }
            }
        }
    }

    private static void threeTerms(String text, long[] ways, int set, int a, int b) {
        for (int c = 2 * b; c < ways.length; c *= 2) {
            for (int d = 2 * c; d < ways.length; d *= 2) {
                if ((set & (a | b | c | d)) == 0) {
                    Check.due(text + ": three terms", ways[set | a | c] * ways[set | b | d],
                            ways[set | a | b] * ways[set | c | d] + ways[set | a | d] * ways[set | b | c]);
                }
            }
        }
    }
}
