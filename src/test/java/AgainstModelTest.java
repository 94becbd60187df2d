import java.util.ArrayList;
import java.util.List;
import java.util.Random;
import java.util.function.ToLongFunction;

/**
 * Runs of calls drawn by a fixed seed, each answered by the class and by the slow model; behind them all that can be
 * asked, of objects led through the same run anew.
 */
public final class AgainstModelTest {
    private static final int RUNS = 300;
    private static final int CALLS = 320;

    private final Random random;
    private final String name;
    private final GrassCells x = new GrassCells();
    private final Model model = new Model();
    private final List<ToLongFunction<GrassCells>> drawn = new ArrayList<>();

    private AgainstModelTest(int run) {
        random = new Random(77_000 + run);
        name = "run " + run;
    }

    public static void main(String[] args) {
        for (int run = 0; run < RUNS; run++) {
            new AgainstModelTest(run).run();
        }
        Check.close("AgainstModelTest");
    }

    private void run() {
        while (drawn.size() < CALLS) {
            if (random.nextInt(12) == 0 || model.count(0) < 0 && random.nextInt(3) == 0) {
                tell(anyText());
            } else {
                ask(random.nextInt(25));
            }
        }
        Compare.all(name, new Fresh(this::drawnAnew, drawn.size()), model);
    }

    private GrassCells drawnAnew() {
        GrassCells anew = new GrassCells();
        for (ToLongFunction<GrassCells> call : drawn) {
            call.applyAsLong(anew);
        }
        return anew;
    }

    private void due(String call, ToLongFunction<GrassCells> asked, long want) {
        drawn.add(asked);
        Check.due(name + ": " + call, asked.applyAsLong(x), want);
    }

    private void tell(String text) {
        if (random.nextInt(8) != 0) {
            due("end(0)", o -> o.end(0), model.end(0));
        }
        int from = model.count(9);
        for (int at = 0; at < text.length(); at += 20) {
            int[] w = new int[5];
            for (int t = 0; t < 5; t++) {
                w[t] = Check.word(text, at + 4 * t);
            }
            due("feed", o -> o.feed(w[0], w[1], w[2], w[3], w[4]), model.feed(w[0], w[1], w[2], w[3], w[4]));
        }
        if (random.nextInt(30) != 0) {
            int size = from + text.length();
            due("end", o -> o.end(size), model.end(size));
        }
        due("cell of '" + text + "'", o -> o.cell(), model.cell());
    }

    private int some(int from, int to) {
        return from + random.nextInt(to - from + 1);
    }

    private int anyInt() {
        int[] odd = {Integer.MIN_VALUE, Integer.MAX_VALUE, -2, -1, 0, 255, 256, 1 << 30, 1 << 31, 33, 32};
        return random.nextInt(2) == 0 ? odd[random.nextInt(odd.length)] : random.nextInt();
    }

    private int k() {
        return random.nextInt(15) == 0 ? anyInt() : some(-2, 12);
    }

    private int label() {
        return random.nextInt(15) == 0 ? anyInt() : some(0, Math.max(2, model.count(0)) + 1);
    }

    private int anyBasis() {
        int all = model.bases();
        return all > 0 && random.nextInt(8) != 0 ? model.basis(random.nextInt(all)) : setOfK();
    }

    private int setOfK() {
        int n = Math.max(2, model.count(0));
        int size = model.count(1);
        int set = random.nextInt(1 << n);
        for (int tries = 0; tries < 40 && Integer.bitCount(set) != size; tries++) {
            set = random.nextInt(1 << n);
        }
        return random.nextInt(15) == 0 ? anyInt() : set;
    }

    private int anyClusterSet() {
        int squares = model.square(-1);
        if (squares > 0 && random.nextInt(4) != 0) {
            return model.square(random.nextInt(squares));
        }
        int all = model.cluster(-1);
        return all > 0 && random.nextInt(4) != 0 ? model.cluster(random.nextInt(all)) : setOfK();
    }

    private void ask(int which) {
        int a = label();
        int b = label();
        int k = k();
        int one = anyBasis();
        int other = anyBasis();
        switch (which) {
            case 0: due("f", o -> o.f(a), model.f(a)); break;
            case 1: due("neck", o -> o.neck(a), model.neck(a)); break;
            case 2: due("box", o -> o.box(a, b), model.box(a, b)); break;
            case 3: due("bases", o -> o.bases(), model.bases()); break;
            case 4: due("basis", o -> o.basis(k), model.basis(k)); break;
            case 5: due("rank", o -> o.rank(one ^ k), model.rank(one ^ k)); break;
            case 6: due("exchange", o -> o.exchange(one, other, a), model.exchange(one, other, a)); break;
            case 7: due("part", o -> o.part(a), model.part(a)); break;
            case 8: due("ways", o -> o.ways(one), model.ways(one)); break;
            case 9: int set = setOfK(); due("cross", o -> o.cross(one, set), model.cross(one, set)); break;
            case 10: due("cluster", o -> o.cluster(k), model.cluster(k)); break;
            case 11: due("square", o -> o.square(k), model.square(k)); break;
            case 12: case 13: case 14: int at = anyClusterSet(); due("move", o -> o.move(at), model.move(at)); break;
            case 15: due("lower", o -> o.lower(k, a), model.lower(k, a)); break;
            case 16: due("upper", o -> o.upper(k, a), model.upper(k, a)); break;
            case 17: due("down", o -> o.down(k), model.down(k)); break;
            case 18: due("up", o -> o.up(k), model.up(k)); break;
            case 19: due("keep", o -> o.keep(a - 1), model.keep(a - 1)); break;
            case 20: due("has", o -> o.has(a - 1), model.has(a - 1)); break;
            case 21: due("count", o -> o.count(k), model.count(k)); break;
            case 22: due("undo", o -> o.undo(), model.undo()); break;
            case 23: symmetry(); break;
            default: howMany(a, b, k); break;
        }
    }

    private void symmetry() {
        switch (random.nextInt(3)) {
            case 0: due("turn", o -> o.turn() ? 1 : 0, model.turn() ? 1 : 0); break;
            case 1: due("mirror", o -> o.mirror() ? 1 : 0, model.mirror() ? 1 : 0); break;
            default: due("complement", o -> o.complement() ? 1 : 0, model.complement() ? 1 : 0); break;
        }
        for (int i = 1; i <= 8; i++) {
            int label = i;
            due("f(" + label + ")", o -> o.f(label), model.f(label));
        }
    }

    private void howMany(int n, int k, int dim) {
        due("howMany", o -> o.howMany(n, k, dim), model.howMany(n, k, dim));
    }

    // ---- texts ----

    private String anyText() {
        int n = some(2, 8);
        String text;
        switch (random.nextInt(3)) {
            case 0: text = perm(n); break;
            case 1: text = fill(n); break;
            default: text = neck(n); break;
        }
        for (int t = random.nextInt(3) == 0 ? some(1, 3) : 0; t > 0; t--) {
            text = spoil(text);
        }
        return text.length() > 160 ? text.substring(0, 160) : text;
    }

    private int[] image(int n) {
        List<Integer> residues = new ArrayList<>();
        for (int i = 1; i <= n; i++) {
            residues.add(i);
        }
        java.util.Collections.shuffle(residues, random);
        int shift = random.nextInt(3) == 0 ? random.nextInt(n + 1) : -1;
        int[] f = new int[n + 1];
        for (int i = 1; i <= n; i++) {
            int r = shift >= 0 ? (i + shift - 1) % n + 1 : residues.get(i - 1);
            f[i] = r < i ? r + n : r == i && (shift < 0 ? random.nextBoolean() : shift == n) ? r + n : r;
        }
        return f;
    }

    private String perm(int n) {
        StringBuilder text = new StringBuilder("perm");
        int[] f = image(n);
        for (int i = 1; i <= n; i++) {
            text.append(gap(1)).append(random.nextInt(30) == 0 && f[i] < 10 ? "0" : "").append(f[i]);
        }
        return text.toString();
    }

    private String neck(int n) {
        Model.Told t = new Model.Told(image(n));
        StringBuilder text = new StringBuilder("neck");
        for (int set : t.neck) {
            text.append(gap(1)).append(Model.digits(set));
        }
        return text.toString();
    }

    private String fill(int n) {
        StringBuilder text = new StringBuilder("fill ");
        String path = "";
        for (int i = 1; i <= n; i++) {
            path += random.nextBoolean() ? "d" : "l";
        }
        text.append(path);
        int dense = random.nextInt(6);
        int[] columns = new int[n + 1];
        for (int i = 1; i <= n; i++) {
            if (path.charAt(i - 1) == 'd') {
                text.append(gap(0)).append('/').append(gap(0));
                boolean plus = false;
                for (int j = n; j > i; j--) {
                    if (path.charAt(j - 1) == 'l') {
                        boolean must = plus && columns[j] != 0 && random.nextInt(60) != 0;
                        boolean sign = must || random.nextInt(6) <= dense;
                        plus |= sign;
                        columns[j] |= sign ? 1 : 0;
                        text.append(sign ? '+' : '0');
                    }
                }
            }
        }
        return text.toString();
    }

    private String gap(int least) {
        return " ".repeat(random.nextInt(10) == 0 ? least + random.nextInt(2) : least);
    }

    private String spoil(String text) {
        String signs = " 0123456789+/dlpermfillneck\0x\u00ff";
        int at = random.nextInt(text.length() + 1);
        char sign = signs.charAt(random.nextInt(signs.length()));
        switch (random.nextInt(4)) {
            case 0: return text.substring(0, at) + sign + text.substring(at);
            case 1: return at < text.length() ? text.substring(0, at) + text.substring(at + 1) : text;
            case 2: return at < text.length() ? text.substring(0, at) + sign + text.substring(at + 1) : text + sign;
            default: return text.substring(0, at);
        }
    }
}
