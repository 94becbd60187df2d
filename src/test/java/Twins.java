import java.util.ArrayList;
import java.util.List;
import java.util.function.Consumer;
import java.util.function.IntUnaryOperator;

/**
 * Two objects led through the same calls, one of them through a further one: whether that one has changed something is
 * told by what all other calls answer after it, back through the ACTS that can be UNDONE, and by the TAPE.
 */
final class Twins {
    private Twins() {
    }

    static void changesNothing(String call, Consumer<GrassCells> before, Consumer<GrassCells> further) {
        differInNothing(call, before, before.andThen(further));
    }

    static void differInNothing(String name, Consumer<GrassCells> calls, Consumer<GrassCells> otherCalls) {
        GrassCells x = new GrassCells();
        GrassCells y = new GrassCells();
        calls.accept(x);
        otherCalls.accept(y);
        String after = "after " + name;
        same(after, x, y);
        int left = x.undo();
        Check.due(after + ": undo", y.undo(), left);
        for (int round = 0; round < 20 && left >= 0; round++) {
            after += ", undo";
            same(after, x, y);
            left = x.undo();
            Check.due(after + ": undo", y.undo(), left);
        }
        Check.due(after + ": cell", y.cell(), x.cell());
        same(after + ", cell", x, y);
    }

    private static void same(String name, GrassCells x, GrassCells y) {
        List<String> due = answers(x);
        List<String> got = answers(y);
        boolean alike = due.equals(got);
        Check.due(name + ": all other calls " + (alike ? "" : got + " instead of " + due), alike, true);
    }

    // An object is good for 512 calls: no more are asked than the CELL has answers.
    private static List<String> answers(GrassCells x) {
        List<String> all = new ArrayList<>();
        for (int what = 0; what <= 9; what++) {
            all.add("count(" + what + ") " + x.count(what));
        }
        for (int shelf = 0; shelf <= 3; shelf++) {
            all.add("has(" + shelf + ") " + x.has(shelf));
        }
        all.add("bases " + x.bases());
        int n = x.count(0);
        for (int i = 1; i <= n; i++) {
            all.add("f(" + i + ") " + x.f(i));
            all.add("neck(" + i + ") " + x.neck(i));
            all.add("ways(neck) " + x.ways(x.neck(i)));
            all.add("part(" + i + ") " + x.part(i));
            for (int j = i + 1; j <= n; j++) {
                all.add("box(" + i + ", " + j + ") " + x.box(i, j));
            }
        }
        list(all, "basis", k -> x.basis(k), 0);
        list(all, "cluster", k -> x.cluster(k), -1);
        list(all, "square", k -> x.square(k), -1);
        all.add("lower " + x.lower(0, 0) + " " + x.lower(0, 1));
        all.add("upper " + x.upper(0, 0) + " " + x.upper(0, 1));
        return all;
    }

    private static void list(List<String> all, String call, IntUnaryOperator answer, int from) {
        int last = 0;
        for (int k = from; k <= 70 && last >= 0; k++) {
            last = answer.applyAsInt(k);
            all.add(call + "(" + k + ") " + last);
        }
    }
}
