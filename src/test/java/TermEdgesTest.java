import java.util.List;
import java.util.Set;
import java.util.TreeSet;
import java.util.function.Consumer;

/** Parts II and III of "Terms": a test for each sentence that names an edge, by CELLS worked out by hand. */
public final class TermEdgesTest {
    private static final String TOP = "perm 3 4 5 6";
    // label 1 is a LOOP, 2 a COLOOP, 3 and 4 hang together
    private static final String LOOSE = "perm 1 6 4 7";

    private TermEdgesTest() {
    }

    public static void main(String[] args) {
        orders();
        necklaces();
        filledDiagrams();
        dims();
        loops();
        ranksAndExchanges();
        parts();
        waysOfPaths();
        waysOfSets();
        crosses();
        clusters();
        laidAnew();
        squares();
        severalSquares();
        moves();
        closures();
        nextOnes();
        boundedNextOnes();
        acts();
        undone();
        shelves();
        Check.close("TermEdgesTest");
    }

    private static void due(String call, long got, long want) {
        Check.due(call, got, want);
    }

    private static int set(String digits) {
        return Check.set(digits);
    }

    // SETS by their digits, "-" the one without labels
    private static int[] sets(String all) {
        String[] each = all.split(" ");
        int[] found = new int[each.length];
        for (int k = 0; k < each.length; k++) {
            found[k] = each[k].equals("-") ? 0 : set(each[k]);
        }
        return found;
    }

    private static void bases(String text, String wanted) {
        GrassCells x = Check.told(text);
        int[] all = sets(wanted);
        due(text + ": bases", x.bases(), all.length);
        for (int k = 0; k < all.length; k++) {
            due(text + ": basis(" + k + ")", x.basis(k), all[k]);
        }
        due(text + ": basis(" + all.length + ")", x.basis(all.length), -2);
    }

    private static void cluster(String name, GrassCells x, String wanted) {
        int[] all = sets(wanted);
        due(name + ": cluster(-1)", x.cluster(-1), all.length);
        for (int k = 0; k < all.length; k++) {
            due(name + ": cluster(" + k + ")", x.cluster(k), all[k]);
        }
        due(name + ": cluster(" + all.length + ")", x.cluster(all.length), -2);
    }

    private static void is(String name, GrassCells x, String perm) {
        String found = Check.perm(x);
        Check.due(name + " is " + found + " (due is " + perm + ")", found.equals(perm), true);
    }

    private static void orders() {
        Check.holds("Terms, ORDER: from r on come r, .. N, 1, .. r - 1", () -> {
            bases("perm 2 4 5 7", "13 23 14 24 34");
            bases("perm 4 3 5 6", "12 13 14 24 34");
            bases("perm 3 5 4 6", "12 13 23 14 24");
            bases("perm 3 4 6 5", "12 13 23 24 34");
            bases("perm 1 3 5", "2 3");
            bases("perm 3 2 4", "1 3");
            bases("perm 2 4 3", "1 2");
        });
        Check.holds("Terms, AT LEAST: none of its labels (the first, the second ..) is ahead of that of "
                + "the other one", () -> {
            bases("perm 2 3 5 8", "14 24 34");
            bases("perm 2 4 6 5 8", "13 23 14 24 34 15 25 35");
            bases(TOP, "12 13 23 14 24 34");
        });
        Check.holds("Terms, BASES: all SETS of K, with K 0 and K N, too", () -> {
            bases("perm 1 2", "-");
            bases("perm 1 2 3 4 5 6 7 8", "-");
            bases("perm 3 4", "12");
            bases("perm 9 10 11 12 13 14 15 16", "12345678");
            bases("perm 2 3", "1 2");
            due("BASES of N 8 and K 4", Check.told("perm 5 6 7 8 9 10 11 12").bases(), 70);
        });
    }

    private static void neck(String text, String wanted) {
        GrassCells x = Check.told(text);
        int[] all = sets(wanted);
        for (int i = 1; i <= all.length; i++) {
            due(text + ": neck(" + i + ")", x.neck(i), all[i - 1]);
        }
    }

    private static void necklaces() {
        Check.holds("Terms, NECKLACE: the first SET has all F(i) - N of those F(i) that are above N", () -> {
            due("F(i) is N", Check.told("perm 3 2 4").neck(1), set("1"));
            due("F(i) is N + 1", Check.told("perm 2 3 4").neck(1), set("1"));
            due("F(i) is 2 * N", Check.told("perm 1 2 6").neck(1), set("3"));
            due("none", Check.told("perm 1 2 3").neck(1), 0);
            due("all", Check.told("perm 4 5 6").neck(1), set("123"));
        });
        Check.holds("Terms, NECKLACE: the SET behind the i-th is the same, if F(i) is i", () -> {
            neck("perm 1 2 6", "3 3 3");
            neck("perm 1 3 5", "2 2 3");
        });
        Check.holds("Terms, NECKLACE: else without i, with F(i), less N, if it is above N", () -> {
            neck("perm 2 3 4", "1 2 3");
            neck("perm 3 4 5 6", "12 23 34 14");
            neck("perm 4 5 3", "12 12 12");
            neck(LOOSE, "23 23 23 24");
        });
        Check.holds("Terms, F of a NECKLACE: i, if the i-th SET has not i; else the label that comes "
                + "anew, N more, if that is i or below it", () -> {
            is("F", Check.told("neck 23 23 23 24"), LOOSE);
            is("F", Check.told("neck 1 1"), "perm 3 2");
            is("F", Check.told("neck 1 2"), "perm 2 3");
            is("F", Check.told("neck 2 2"), "perm 1 4");
            is("F", Check.told("neck 12 12"), "perm 3 4");
        });
    }

    private static void filledDiagrams() {
        Check.holds("Terms, F of a filled diagram: at once out, if there is no BOX; i, or N more where d "
                + "stands", () -> {
            is("F", Check.told("fill ll"), "perm 1 2");
            is("F", Check.told("fill dd//"), "perm 3 4");
            is("F", Check.told("fill ld/"), "perm 1 4");
        });
        Check.holds("Terms, F of a filled diagram: with 0 straight on; out at i itself i, N more where d "
                + "stands", () -> {
            is("F", Check.told("fill dl/0"), "perm 3 2");
            is("F", Check.told("fill ddll/00/00"), "perm 5 6 3 4");
        });
        Check.holds("Terms, F of a filled diagram: with + upwards from the right, to the left from below", () -> {
            is("F", Check.told("fill dl/+"), "perm 2 3");
            is("F", Check.told("fill lddl/+/+"), "perm 1 4 6 7");
            is("F", Check.told("fill ddll/++/++"), TOP);
        });
        Check.holds("Terms, F of a filled diagram: from the right into the last BOX of the ROW", () -> {
            is("F", Check.told("fill dll/+0"), "perm 3 2 4");
            is("F", Check.told("fill dll/0+"), "perm 2 4 3");
        });
        Check.holds("Terms, F of a filled diagram: from below into the lowest BOX of the column", () -> {
            is("F", Check.told("fill ddl/+/0"), "perm 3 5 4");
            is("F", Check.told("fill ddl/0/+"), "perm 4 3 5");
        });
        Check.holds("Terms, F of a filled diagram: N more, if j is below i", () -> {
            is("F", Check.told("fill dlll/00+"), "perm 2 5 3 4");
            is("F", Check.told("fill dlll/+00"), "perm 4 2 3 5");
        });
        Check.holds("Terms, F of a filled diagram: each F has just one LE diagram", () -> {
            String[] texts = {"fill ddll/++/0+", "fill ddll/+0/0+", "fill ddll/00/++", "fill dldl/0+/+"};
            for (String text : texts) {
                GrassCells x = Check.told(text);
                GrassCells y = Check.told(Check.perm(x));
                int place = text.indexOf('/');
                for (int i = 1; i <= 4; i++) {
                    for (int j = 4; j > i; j--) {
                        if (text.charAt(4 + i) == 'd' && text.charAt(4 + j) == 'l') {
                            place += text.charAt(place + 1) == '/' ? 2 : 1;
                            int sign = text.charAt(place) == '+' ? 1 : 0;
                            due(text + ": box(" + i + ", " + j + ")", x.box(i, j), sign);
                            due(text + ": box(" + i + ", " + j + ") told by its F", y.box(i, j), sign);
                        }
                    }
                }
            }
        });
    }

    private static void dim(String text, int dim, int inversions) {
        GrassCells x = Check.told(text);
        due(text + ": DIM", x.count(2), dim);
        due(text + ": INVERSIONS", x.count(3), inversions);
    }

    private static void dims() {
        Check.holds("Terms, DIM: how many BOXES have +", () -> {
            dim("fill ddll/++/++", 4, 0);
            dim("fill ddll/+0/0+", 2, 2);
            dim("fill ddll/00/00", 0, 4);
            dim("fill dddlll/+++/+++/+++", 9, 0);
            dim("fill ll", 0, 0);
            dim("fill dd//", 0, 0);
        });
        Check.holds("Terms, INVERSIONS: of i (1 to N) and j above i, also above N, F(i) above F(j)", () -> {
            dim("perm 4 3 5 6", 3, 1);
            dim("perm 2 4 5 7", 3, 1);
            dim("perm 1 2 3 8", 0, 3);
            dim("perm 5 2 3 4", 0, 3);
            dim("perm 1 2 3 4 5 6 7 16", 0, 7);
            dim("perm 1 2 3 4", 0, 0);
        });
    }

    private static void fixed(String text, String loops, String coloops) {
        GrassCells x = Check.told(text);
        due(text + ": LOOPS", x.count(4), sets(loops)[0]);
        due(text + ": COLOOPS", x.count(5), sets(coloops)[0]);
    }

    private static void loops() {
        Check.holds("Terms, LOOP: is in no BASIS", () -> {
            fixed("perm 1 3 5", "1", "-");
            fixed("perm 2 4 3", "3", "-");
            fixed("perm 1 2 3", "123", "-");
            fixed("perm 1 2 3 4 5 6 7 8", "12345678", "-");
        });
        Check.holds("Terms, COLOOP: is in each BASIS", () -> {
            fixed("perm 4 3 5", "-", "1");
            fixed("perm 2 4 6", "-", "3");
            fixed("perm 4 5 6", "-", "123");
            fixed(LOOSE, "1", "2");
            fixed(TOP, "-", "-");
        });
    }

    private static void ranksAndExchanges() {
        Check.holds("Terms, RANK: the most of the labels that a BASIS has", () -> {
            GrassCells x = Check.told(LOOSE);
            due("rank(0)", x.rank(0), 0);
            due("rank(1)", x.rank(set("1")), 0);
            due("rank(2)", x.rank(set("2")), 1);
            due("rank(34)", x.rank(set("34")), 1);
            due("rank(24)", x.rank(set("24")), 2);
            due("rank(1234)", x.rank(set("1234")), 2);
            due("rank of all, K 0", Check.told("perm 1 2").rank(3), 0);
            due("rank of all, K N", Check.told("perm 3 4").rank(3), 2);
        });
        Check.holds("Terms, EXCHANGE: the least b of B that A has not, for which A without a, with b, is "
                + "a BASIS", () -> {
            GrassCells x = Check.told(TOP);
            due("exchange(12, 34, 1)", x.exchange(set("12"), set("34"), 1), 3);
            due("exchange(34, 12, 4)", x.exchange(set("34"), set("12"), 4), 1);
            GrassCells twos = Check.told("perm 2 5 4 7");
            due("the least would be no BASIS", twos.exchange(set("13"), set("24"), 3), 4);
            GrassCells three = Check.told("perm 4 5 6 7 8 9");
            due("the least that A has not", three.exchange(set("124"), set("235"), 1), 3);
        });
    }

    private static void partsAre(String text, int... leasts) {
        GrassCells x = Check.told(text);
        int all = 0;
        for (int label = 1; label <= leasts.length; label++) {
            due(text + ": part(" + label + ")", x.part(label), leasts[label - 1]);
            all += leasts[label - 1] == label ? 1 : 0;
        }
        due(text + ": PARTS", x.count(6), all);
    }

    private static void parts() {
        Check.holds("Terms, PARTS: two labels hang together, if a BASIS stays one when one is taken out "
                + "and the other put in; and so on", () -> {
            partsAre(TOP, 1, 1, 1, 1);
            partsAre(LOOSE, 1, 2, 3, 3);
            partsAre("perm 2 5 4 7", 1, 1, 3, 3);
            partsAre("perm 4 3 6 5", 1, 2, 2, 1);
            partsAre("perm 5 2 7 4 9 6", 1, 2, 1, 4, 1, 6);
            partsAre("perm 2 3 4 5 6 7 8 9", 1, 1, 1, 1, 1, 1, 1, 1);
        });
        Check.holds("Terms, PARTS: a LOOP and a COLOOP are each a PART", () -> {
            partsAre("perm 1 2 3", 1, 2, 3);
            partsAre("perm 4 5 6", 1, 2, 3);
            partsAre("perm 1 4", 1, 2);
        });
    }

    private static void ways(String text, String set, long wanted) {
        due(text + ": ways(" + set + ")", Check.told(text).ways(sets(set)[0]), wanted);
    }

    private static void waysOfPaths() {
        Check.holds("Terms, WAYS: a path goes into its ROW from the right, to the left from one + to the next", () -> {
            ways("fill dlll/+++", "4", 1);
            ways("fill dlll/+0+", "4", 1);
            ways("fill dlll/+00", "4", 1);
            ways("fill dlll/0++", "4", 0);
        });
        Check.holds("Terms, WAYS: at any + it may turn down", () -> {
            ways("fill dlll/+++", "2", 1);
            ways("fill dlll/+++", "3", 1);
            ways("fill dlll/+0+", "3", 0);
            ways("fill dlll/++0", "2", 0);
        });
        Check.holds("Terms, WAYS: in the column from one + to the next, below the lowest + it ends", () -> {
            ways("fill dddl/+/0/+", "234", 1);
            ways("fill dddl/+/0/0", "234", 1);
            ways("fill dddl/+/+/0", "234", 1);
            ways("fill dddl/0/+/+", "234", 0);
            ways("fill dddl/+/+/+", "134", 1);
        });
        Check.holds("Terms, WAYS: at any of these it may turn left again", () -> {
            ways("fill ddll/++/++", "24", 2);
            ways("fill ddll/0+/++", "24", 1);
            ways("fill ddll/++/0+", "24", 1);
            ways("fill dddlll/+++/+++/+++", "236", 6);
        });
        Check.holds("Terms, WAYS: no two through one BOX with +", () -> {
            ways("fill ddll/++/++", "34", 1);
            ways("fill ddll/0+/0+", "34", 0);
            ways("fill dddlll/+++/+++/+++", "456", 1);
            ways("fill dddlll/+++/+++/+++", "246", 5);
        });
        Check.holds("Terms, WAYS: from each label of the FIRST SET that J has not, to the labels of J "
                + "that it has not", () -> {
            ways("fill ddll/++/++", "13", 1);
            ways("fill ddll/++/++", "23", 1);
            ways("fill ddll/+0/0+", "34", 1);
            ways("fill ddll/+0/0+", "13", 1);
            ways("fill ddll/+0/0+", "23", 0);
        });
    }

    private static void waysOfSets() {
        Check.holds("Terms, WAYS: 1 for the FIRST SET", () -> {
            ways(TOP, "12", 1);
            ways(LOOSE, "23", 1);
            ways("fill lld/", "3", 1);
            ways("perm 1 2", "-", 1);
            ways("perm 3 4", "12", 1);
        });
        Check.holds("What it is: in how many ways paths go, numbers by which the relations of three terms hold", () -> {
            GrassCells x = Check.told(TOP);
            long left = x.ways(set("13")) * x.ways(set("24"));
            due("13 times 24", left, x.ways(set("12")) * x.ways(set("34")) + x.ways(set("14")) * x.ways(set("23")));
            GrassCells y = Check.told("perm 4 5 6 7 8 9");
            due("135 times 246 (with 1)", y.ways(set("125")) * y.ways(set("146")),
                    y.ways(set("124")) * y.ways(set("156")) + y.ways(set("126")) * y.ways(set("145")));
        });
        Check.holds("Terms, WAYS: none for a SET of K that is no BASIS", () -> {
            ways("perm 2 4 5 7", "12", 0);
            ways("perm 3 4 6 5", "14", 0);
            ways(LOOSE, "34", 0);
        });
    }

    private static void crossing(int n, String one, String other, int wanted) {
        StringBuilder text = new StringBuilder("perm");
        for (int i = 1; i <= n; i++) {
            text.append(' ').append(i + one.length());
        }
        GrassCells x = Check.told(text.toString());
        due("N " + n + ": cross(" + one + ", " + other + ")", x.cross(set(one), set(other)), wanted);
        due("N " + n + ": cross(" + other + ", " + one + ")", x.cross(set(other), set(one)), wanted);
    }

    private static void crosses() {
        Check.holds("Terms, CROSS: a, b, c, d in this ORDER round the circle", () -> {
            crossing(4, "13", "24", 1);
            crossing(4, "12", "34", 0);
            crossing(4, "14", "23", 0);
            crossing(8, "18", "27", 0);
            crossing(8, "17", "28", 1);
            crossing(8, "15", "38", 1);
        });
        Check.holds("Terms, CROSS: a and c in the first, not in the second, b and d in the second, not "
                + "in the first", () -> {
            crossing(5, "123", "245", 0);
            crossing(5, "124", "345", 0);
            crossing(5, "135", "245", 1);
            crossing(6, "135", "246", 1);
            crossing(6, "125", "245", 0);
        });
        Check.holds("Terms, CROSS: not with fewer than two labels of each that the other has not", () -> {
            crossing(4, "1", "3", 0);
            crossing(4, "13", "13", 0);
            crossing(4, "12", "13", 0);
            crossing(4, "123", "124", 0);
            crossing(2, "12", "12", 0);
        });
    }

    private static void clusters() {
        Check.holds("Terms, CLUSTER: the SETS of the NECKLACE ahead of all BASES", () -> {
            cluster("lacking 23", Check.told("perm 4 3 5 6"), "12 14 24 34");
            cluster("lacking 12", Check.told("perm 2 4 5 7"), "13 23 14 34");
            cluster("lacking 14", Check.told("perm 3 4 6 5"), "12 23 24 34");
            cluster("lacking 34", Check.told("perm 3 5 4 6"), "12 13 23 14");
        });
        Check.holds("Terms, CLUSTER: then the BASES by their numbers as bits, label 1 the lowest bit", () -> {
            cluster("top", Check.told(TOP), "12 13 23 14 34");
            cluster("top of 5", Check.told("perm 3 4 5 6 7"), "12 13 23 14 34 15 45");
        });
        Check.holds("Terms, CLUSTER: each BASIS that crosses none that is in it so far; no SET that is "
                + "no BASIS", () -> {
            cluster("one PART", Check.told("perm 2 3 4 5"), "1 2 3 4");
            cluster("loose", Check.told(LOOSE), "23 24");
            cluster("a point", Check.told("perm 5 6 3 4"), "12");
            cluster("K 0", Check.told("perm 1 2"), "-");
            cluster("K N", Check.told("perm 3 4"), "12");
        });
    }

    private static void laidAnew() {
        Check.holds("Terms, CLUSTER: it is laid anew when the CELL changes", () -> {
            GrassCells x = Check.told(TOP);
            x.move(set("13"));
            Check.tell(x, "perm 3 4 5 6 7");
            cluster("another one told", x, "12 13 23 14 34 15 45");
            x.move(set("13"));
            Check.tell(x, TOP);
            x.move(set("13"));
            x.down(1);
            cluster("DOWN", x, "12 13 23 14");
            x.up(0);
            cluster("UP", x, "12 13 23 14 34");
        });
        Check.holds("Terms, CLUSTER: it is laid anew when TURN, MIRROR, COMPLEMENT change the CELL", () -> {
            List<Consumer<GrassCells>> acts = List.of(x -> x.turn(), x -> x.mirror(), x -> x.complement());
            for (Consumer<GrassCells> act : acts) {
                GrassCells x = Check.told("perm 3 4 6 5 7");
                String before = Check.perm(x);
                due("SQUARES", x.square(-1), 1);
                due("move(13)", x.move(set("13")), set("24"));
                act.accept(x);
                Check.due("another CELL", Check.perm(x).equals(before), false);
                GrassCells y = Check.told(Check.perm(x));
                for (int k = -1; k <= y.cluster(-1); k++) {
                    due("cluster(" + k + ")", x.cluster(k), y.cluster(k));
                }
            }
        });
        Check.holds("Terms, CLUSTER: laid anew, it has nothing of the CELL ahead", () -> {
            String[] texts = {"perm 4 5 6 7 8 9", "perm 3 4 5 6 7 8", "perm 4 5 6 7 8", "perm 3 4 5 6 7", TOP,
                "perm 5 6 3 4 7 8", "perm 4 3 5 6", "perm 3 4 6 5", LOOSE, "perm 1 2", "perm 2 3", "perm 5 4 6 8 9 7"};
            for (String ahead : texts) {
                for (String text : texts) {
                    GrassCells x = Check.told(ahead);
                    Check.tell(x, text);
                    GrassCells y = Check.told(text);
                    String name = text + " behind " + ahead;
                    for (int k = -1; k < 11; k++) {
                        due(name + ": cluster(" + k + ")", x.cluster(k), y.cluster(k));
                        due(name + ": square(" + k + ")", x.square(k), y.square(k));
                    }
                }
            }
        });
        Check.holds("Terms, CLUSTER: a MOVE does not lay it anew", () -> {
            GrassCells x = Check.told(TOP);
            x.move(set("13"));
            cluster("a MOVE", x, "12 23 14 24 34");
        });
    }

    private static void squares() {
        Check.holds("Terms, SQUARE: b between a and c, d not between these: above c", () -> {
            GrassCells x = Check.told(TOP);
            due("square(0)", x.square(0), set("13"));
            due("move(13)", x.move(set("13")), set("24"));
        });
        Check.holds("Terms, SQUARE: b between a and c, d not between these: below a", () -> {
            GrassCells x = Check.told(TOP);
            x.move(set("13"));
            due("square(0)", x.square(0), set("24"));
            due("move(24)", x.move(set("24")), set("13"));
        });
        Check.holds("Terms, SQUARE: at a SET that is in the CLUSTER", () -> {
            GrassCells x = Check.told(TOP);
            due("move(24)", x.move(set("24")), -2);
            due("SQUARES", x.square(-1), 1);
        });
        Check.holds("Terms, SQUARE: at none of the NECKLACE", () -> {
            for (String text : new String[] {TOP, "perm 4 3 5 6", "perm 3 4 5 6 7", LOOSE}) {
                GrassCells x = Check.told(text);
                for (int i = 1; i <= x.count(0); i++) {
                    due(text + ": move(neck(" + i + "))", x.move(x.neck(i)), -2);
                }
            }
        });
        Check.holds("Terms, SQUARE: all four SETS are in the CLUSTER", () -> {
            GrassCells x = Check.told("perm 3 4 5 6 7 8");
            cluster("top of 6", x, "12 13 23 14 34 15 45 16 56");
            due("SQUARES", x.square(-1), 3);
            x.move(set("14"));
            cluster("then", x, "12 13 23 34 15 35 45 16 56");
            due("SQUARES then", x.square(-1), 3);
            due("move(13)", x.move(set("13")), set("25"));
            cluster("then", x, "12 23 34 15 25 35 45 16 56");
            due("SQUARES then", x.square(-1), 3);
            due("at 35: 23, 34, 45, 25", x.move(set("35")), set("24"));
            GrassCells y = Check.told("perm 4 5 6 7 8 9");
            cluster("top of K 3", y, "123 124 134 234 125 145 345 126 156 456");
            due("SQUARES of K 3", y.square(-1), 3);
            due("at 124: 123, 134, 145, 125", y.square(0), set("124"));
            due("at 134: 124, 234, 345, 145", y.square(1), set("134"));
            due("at 125: 124, 145, 156, 126", y.square(2), set("125"));
            due("at 145 there is none", y.move(set("145")), -2);
        });
    }

    // how many a, c, b, d there are for a MOVE at X, in their order; the first one's SET in first[0]
    private static int squaresAt(int set, int n, Set<Integer> cluster, int[] first) {
        int all = 0;
        for (int a = 1; a <= n; a++) {
            for (int c = a + 1; c <= n; c++) {
                for (int b = a + 1; b < c; b++) {
                    for (int d = 1; d <= n; d++) {
                        int ac = 1 << (a - 1) | 1 << (c - 1);
                        int bd = 1 << (b - 1) | 1 << (d - 1);
                        boolean laid = (d < a || d > c) && (set & ac) == ac && (set & bd) == 0;
                        int rest = set & ~ac;
                        if (laid && cluster.contains(rest | 1 << (a - 1) | 1 << (b - 1))
                                && cluster.contains(rest | 1 << (c - 1) | 1 << (b - 1))
                                && cluster.contains(rest | 1 << (c - 1) | 1 << (d - 1))
                                && cluster.contains(rest | 1 << (a - 1) | 1 << (d - 1))) {
                            first[0] = all == 0 ? rest | bd : first[0];
                            all++;
                        }
                    }
                }
            }
        }
        return all;
    }

    private static void moveAtEach(GrassCells x, int n) {
        Set<Integer> cluster = new TreeSet<>();
        int size = x.cluster(-1);
        for (int k = 0; k < size; k++) {
            cluster.add(x.cluster(k));
        }
        for (int i = 1; i <= n; i++) {
            int[] first = {-2};
            due("SQUARES at one of the NECKLACE", squaresAt(x.neck(i), n, cluster, first), 0);
        }
        int squares = 0;
        for (int set : cluster) {
            int[] first = {-2};
            int several = squaresAt(set, n, cluster, first);
            Check.due("several at " + set, several > 1, false);
            if (several > 0) {
                due("square(" + squares + ")", x.square(squares), set);
                squares++;
                due("move(" + set + ")", x.move(set), first[0]);
                x.undo();
            }
        }
        due("SQUARES", x.square(-1), squares);
    }

    private static void severalSquares() {
        Check.holds("Terms, SQUARE: the first of several such, by a, c, b, d (there never are two at one X, and none "
                + "is at one of the NECKLACE)", () -> {
            String[] texts = {TOP, "perm 3 4 5 6 7", "perm 4 5 6 7 8 9", "perm 4 5 6 7 8 9 10 11",
                "perm 5 6 7 8 9 10 11 12", "perm 5 4 6 8 9 7", "perm 5 6 3 4 7 8", "perm 6 5 7 8 9 10 12 11"};
            for (String text : texts) {
                GrassCells x = Check.told(text);
                int n = x.count(0);
                moveAtEach(x, n);
                for (int step = 0; step < 4; step++) {
                    int all = x.square(-1);
                    x.move(x.square(all > 0 ? 7 * step % all : 0));
                    moveAtEach(x, n);
                }
            }
        });
    }

    private static void moves() {
        Check.holds("Terms, MOVE: X without a, c, with b, d takes X's place", () -> {
            GrassCells x = Check.told("perm 3 4 5 6 7");
            due("move(14)", x.move(set("14")), set("35"));
            cluster("then", x, "12 13 23 34 15 35 45");
        });
    }

    private static int has(String cell, String kept) {
        GrassCells x = Check.told(kept);
        x.keep(0);
        Check.tell(x, cell);
        return x.has(0);
    }

    private static void closures() {
        Check.holds("Terms, closure: the same N and K", () -> {
            due("another N", has("perm 3 4 5 6 7", TOP), 0);
            due("another K", has(TOP, "perm 2 3 4 5"), 0);
            due("another N, both K 0", has("perm 1 2 3", "perm 1 2"), 0);
            due("another N, both K 0", has("perm 1 2", "perm 1 2 3"), 0);
            due("fewer LABELS and a BASIS of both", has("perm 2 3 4", "perm 2 3"), 0);
            due("more LABELS and a BASIS of both", has("perm 2 3", "perm 2 4 3"), 0);
        });
        Check.holds("Terms, closure: all BASES of that are BASES of this one", () -> {
            due("itself", has(TOP, TOP), 1);
            due("a LOWER one", has(TOP, "perm 4 3 5 6"), 1);
            due("an UPPER one", has("perm 4 3 5 6", TOP), 0);
            due("one BASIS is none", has("perm 4 3 5 6", "perm 3 5 4 6"), 0);
            due("a point", has("perm 4 3 5 6", "perm 5 2 3 8"), 1);
            due("a point without", has("perm 4 3 5 6", "perm 1 6 7 4"), 0);
        });
    }

    private static void next(String text, String call, String... wanted) {
        GrassCells x = Check.told(text);
        boolean lower = call.equals("lower");
        due(text + ": " + call + "(0, 0)", lower ? x.lower(0, 0) : x.upper(0, 0), wanted.length);
        for (int k = 0; k < wanted.length; k++) {
            String[] f = wanted[k].split(" ");
            for (int i = 1; i <= f.length; i++) {
                due(text + ": " + call + "(" + k + ", " + i + ")", lower ? x.lower(k, i) : x.upper(k, i),
                        Integer.parseInt(f[i - 1]));
            }
        }
        due(text + ": " + call + "(" + wanted.length + ", 1)",
                lower ? x.lower(wanted.length, 1) : x.upper(wanted.length, 1), -2);
    }

    private static void nextOnes() {
        Check.holds("Terms, NEXT: for i from 1 to N, for j from i + 1 on", () -> {
            next(TOP, "lower", "4 3 5 6", "3 5 4 6", "3 4 6 5", "2 4 5 7");
            next("perm 5 6 3 4", "upper", "3 6 5 4", "4 6 3 5", "5 3 6 4", "5 4 3 6");
        });
        Check.holds("Terms, NEXT: for j up to i + N - 1", () -> {
            next("perm 5 2 3 4", "upper", "2 5 3 4", "3 2 5 4", "4 2 3 5");
            next("perm 1 2 3 8", "upper", "4 2 3 5", "1 4 3 6", "1 2 4 7");
            next("perm 1 4", "upper", "2 3");
            next("perm 3 2", "upper", "2 3");
        });
        Check.holds("Terms, LOWER: its DIM is one less, no more", () -> {
            next("perm 2 4 3", "lower", "4 2 3", "1 5 3");
            due("LOWER ones of top of 5", Check.told("perm 3 4 5 6 7").lower(0, 0), 5);
            next("perm 5 2 3 4", "lower");
        });
        Check.holds("Terms, UPPER: its DIM is one more, no more", () -> {
            next("perm 4 3 5 6", "upper", "3 4 5 6");
            next(TOP, "upper");
            next("perm 1 2 6", "upper", "3 2 4", "1 3 5");
        });
    }

    private static void boundedNextOnes() {
        Check.holds("Terms, NEXT: if then each F(m) is m to m + N: both are taken", () -> {
            next("perm 2 3", "lower", "3 2", "1 4");
        });
        Check.holds("Terms, NEXT: if then each F(m) is m to m + N: none is below m", () -> {
            next("perm 1 3 5", "lower", "1 5 3", "1 2 6");
            next("perm 1 4", "lower");
        });
        Check.holds("Terms, NEXT: if then each F(m) is m to m + N: none is above m + N", () -> {
            next("perm 2 4 6", "lower", "4 2 6", "1 5 6");
        });
    }

    private static void acts() {
        Check.holds("Terms, ACTS: what is told, TURN, MIRROR, COMPLEMENT, DOWN, UP, a MOVE", () -> {
            GrassCells x = new GrassCells();
            due("none", x.count(7), 0);
            Check.tell(x, TOP);
            due("told", x.count(7), 1);
            x.turn();
            due("TURN", x.count(7), 2);
            x.mirror();
            due("MIRROR", x.count(7), 3);
            x.complement();
            due("COMPLEMENT", x.count(7), 4);
            x.down(0);
            due("DOWN", x.count(7), 5);
            x.up(0);
            due("UP", x.count(7), 6);
            x.move(x.square(0));
            due("a MOVE", x.count(7), 7);
        });
        Check.holds("Terms, ACTS: TURN: F(i + 1) becomes F(i) + 1, round the circle (label N and label 1)", () -> {
            GrassCells x = Check.told("perm 1 4 5 8 7");
            x.turn();
            is("turned", x, "perm 3 2 5 6 9");
            x.turn();
            is("turned again", x, "perm 5 4 3 6 7");
            GrassCells point = Check.told("perm 1 2 6");
            point.turn();
            is("a COLOOP at label N", point, "perm 4 2 3");
            GrassCells loop = Check.told("perm 4 5 3");
            loop.turn();
            is("a LOOP at label N", loop, "perm 1 5 6");
        });
        Check.holds("Terms, ACTS: MIRROR: label i becomes N + 1 - i (label N and label 1)", () -> {
            GrassCells x = Check.told("perm 1 2 6");
            x.mirror();
            is("a COLOOP at label N", x, "perm 4 2 3");
            x = Check.told(LOOSE);
            x.mirror();
            is("a LOOP at label 1", x, "perm 2 5 7 4");
        });
        Check.holds("Terms, ACTS: COMPLEMENT: BASES become what they leave out (K 0 and K N)", () -> {
            GrassCells x = Check.told("perm 1 2");
            x.complement();
            is("of K 0", x, "perm 3 4");
            x.complement();
            is("of K N", x, "perm 1 2");
            x = Check.told("perm 1 3 5");
            x.complement();
            due("bases", x.bases(), 2);
            due("basis(0)", x.basis(0), set("12"));
            due("basis(1)", x.basis(1), set("13"));
        });
    }

    private static void undone() {
        Check.holds("Terms, ACTS: the last 20 can be UNDONE", () -> {
            GrassCells x = Check.told("perm 1 2 3 4 5 6 7 16");
            for (int turns = 1; turns <= 19; turns++) {
                x.turn();
            }
            due("20 ACTS", x.count(7), 20);
            x.turn();
            due("21 ACTS", x.count(7), 20);
            for (int left = 19; left >= 0; left--) {
                due("undo", x.undo(), left);
            }
            due("undo of the 21st last", x.undo(), -1);
            is("what the first of 21 told", x, "perm 1 2 3 4 5 6 7 16");
            x = Check.told("perm 1 2 3 4 5 6 7 16");
            for (int turns = 1; turns <= 19; turns++) {
                x.turn();
            }
            for (int left = 19; left >= 0; left--) {
                due("undo", x.undo(), left);
            }
            due("no CELL ahead of the first of 20", x.count(0), -1);
        });
        Check.holds("Terms, ACTS: the last first", () -> {
            GrassCells x = Check.told("perm 1 2");
            Check.tell(x, "perm 1 2 3");
            Check.tell(x, "perm 1 2 3 4");
            x.undo();
            due("N", x.count(0), 3);
            x.undo();
            due("N", x.count(0), 2);
            Check.tell(x, "perm 1 2 3 4 5");
            x.undo();
            due("N behind another one", x.count(0), 2);
        });
        Check.holds("Terms, ACTS: UNDONE, its CLUSTER, too", () -> {
            GrassCells x = Check.told(TOP);
            x.move(set("13"));
            x.turn();
            cluster("laid anew", x, "12 13 23 14 34");
            x.undo();
            cluster("UNDONE", x, "12 23 14 24 34");
            x.undo();
            cluster("UNDONE", x, "12 13 23 14 34");
            x.undo();
            due("without a CELL", x.cluster(-1), -1);
        });
    }

    private static void shelves() {
        Check.holds("Terms, SHELVES: 0 to 3", () -> {
            GrassCells x = Check.told("perm 2 3");
            due("keep(-1)", x.keep(-1), -1);
            for (int shelf = 0; shelf <= 3; shelf++) {
                due("keep(" + shelf + ")", x.keep(shelf), 1);
            }
            due("keep(4)", x.keep(4), -1);
            due("all four", x.count(8), 15);
        });
        Check.holds("Terms, SHELVES: a CELL is KEPT, on each its own, until another one is", () -> {
            GrassCells x = Check.told("perm 3 2");
            x.keep(0);
            Check.tell(x, "perm 1 4");
            x.keep(3);
            due("has(0)", x.has(0), 0);
            due("has(3)", x.has(3), 1);
            x.keep(0);
            due("has(0) then", x.has(0), 1);
            Check.tell(x, "perm 2 3");
            due("has(0) of a greater one", x.has(0), 1);
        });
    }
}
