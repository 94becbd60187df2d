import java.util.function.Consumer;
import java.util.function.IntUnaryOperator;

/** Promises 1 to 29: a test for each sentence that names an edge, a wrong call, or that nothing happens. */
public final class CallEdgesTest {
    private static final String TOP = "perm 3 4 5 6";
    private static final String FIVE = "perm 3 4 5 6 7";
    private static final String LEAST_N = "perm 2 3";
    private static final String GREATEST_N = "perm 5 6 7 8 9 10 11 12";
    // label 1 is a LOOP, 2 a COLOOP, 3 and 4 hang together
    private static final String LOOSE = "perm 1 6 4 7";
    private static final int MIN = Integer.MIN_VALUE;
    private static final int MAX = Integer.MAX_VALUE;

    private CallEdgesTest() {
    }

    public static void main(String[] args) {
        newObject();
        feed();
        end();
        labels();
        box();
        bases();
        rank();
        exchange();
        part();
        ways();
        cross();
        cluster();
        square();
        move();
        lowerAndUpper();
        downAndUp();
        symmetries();
        undo();
        howMany();
        keep();
        has();
        count();
        questions();
        calls();
        Check.close("CallEdgesTest");
    }

    private static void due(String call, long got, long want) {
        Check.due(call, got, want);
    }

    private static int set(String digits) {
        return Check.set(digits);
    }

    private static Consumer<GrassCells> none() {
        return x -> { };
    }

    // three ACTS, the last of them a MOVE, two SHELVES, and something on the TAPE
    private static void used(GrassCells x) {
        Check.tell(x, LOOSE);
        x.keep(1);
        Check.tell(x, TOP);
        x.move(set("13"));
        x.keep(3);
        Check.lay(x, "perm 2 4 3");
    }

    private static void newObject() {
        Check.holds("The constants: NONE = -1", () -> due("NONE", GrassCells.NONE, -1));
        Check.holds("Promise 1, a new object: no CELL", () -> {
            GrassCells x = new GrassCells();
            due("f(1)", x.f(1), -1);
            due("neck(1)", x.neck(1), -1);
            due("box(1, 2)", x.box(1, 2), -1);
            due("bases()", x.bases(), -1);
            due("basis(0)", x.basis(0), -1);
            due("rank(0)", x.rank(0), -1);
            due("exchange(1, 2, 1)", x.exchange(1, 2, 1), -1);
            due("part(1)", x.part(1), -1);
            due("ways(0)", x.ways(0), -1);
            due("cross(0, 0)", x.cross(0, 0), -1);
            due("cluster(-1)", x.cluster(-1), -1);
            due("square(-1)", x.square(-1), -1);
            due("lower(0, 0)", x.lower(0, 0), -1);
            due("upper(0, 0)", x.upper(0, 0), -1);
            due("has(0)", x.has(0), -1);
            for (int what = 0; what <= 6; what++) {
                due("count(" + what + ")", x.count(what), -1);
            }
        });
        Check.holds("Promise 1, a new object: no ACT, nothing KEPT, an empty TAPE", () -> {
            GrassCells x = new GrassCells();
            due("count(7)", x.count(7), 0);
            due("count(8)", x.count(8), 0);
            due("count(9)", x.count(9), 0);
            due("end(0)", x.end(0), 0);
            due("cell()", x.cell(), -3);
            due("undo()", x.undo(), -1);
        });
        Check.holds("Promise 1, a new object: it knows nothing of another one", () -> {
            GrassCells x = new GrassCells();
            used(x);
            GrassCells y = new GrassCells();
            due("count(0)", y.count(0), -1);
            due("count(7)", y.count(7), 0);
            due("count(8)", y.count(8), 0);
            due("count(9)", y.count(9), 0);
        });
    }

    private static GrassCells fed(int bytes) {
        GrassCells x = new GrassCells();
        for (int fed = 0; fed < bytes; fed += 20) {
            x.feed(0, 0, 0, 0, 0);
        }
        x.end(bytes);
        return x;
    }

    private static void feed() {
        Check.holds("Promise 2, feed: twenty bytes come: how many the TAPE has", () -> {
            GrassCells x = new GrassCells();
            for (int all = 20; all <= 160; all += 20) {
                due("feed", x.feed(0, -1, MIN, MAX, 7), all);
                due("count(9)", x.count(9), all);
            }
        });
        Check.holds("Promise 2, feed: of each number the highest byte first", () -> {
            GrassCells x = new GrassCells();
            x.feed('p' << 24 | 'e' << 16 | 'r' << 8 | 'm', ' ' << 24 | '1' << 16 | ' ' << 8 | '4', 0, 0, 0);
            x.end(8);
            due("cell", x.cell(), 2);
            due("f(2)", x.f(2), 4);
            Check.lay(x, "perm 9 10 11 12 13 14 15 16");
            due("cell of all five numbers", x.cell(), 8);
            due("f(8)", x.f(8), 16);
        });
        Check.holds("Promise 2, feed: behind the TAPE", () -> {
            GrassCells x = new GrassCells();
            x.feed(Check.word("neck", 0), Check.word(" 1 1", 0), 0, 0, 0);
            x.end(8);
            due("feed", x.feed(Check.word(" 1xx", 0), 0, 0, 0, 0), 28);
            x.end(10);
            due("cell", x.cell(), 3);
        });
        Check.holds("Promise 2, feed: NONE, if it would have more than 160", () -> {
            due("feed at 139", fed(139).feed(0, 0, 0, 0, 0), 159);
            due("feed at 140", fed(140).feed(0, 0, 0, 0, 0), 160);
            due("feed at 141", fed(141).feed(0, 0, 0, 0, 0), -1);
            due("feed at 159", fed(159).feed(0, 0, 0, 0, 0), -1);
            due("feed at 160", fed(160).feed(0, 0, 0, 0, 0), -1);
        });
        Check.holds("Promise 2, feed: .. and none comes", () -> {
            String text = " ".repeat(141) + "perm 1 4";
            for (int size : new int[] {141, 149}) {
                Consumer<GrassCells> before = x -> {
                    Check.tell(x, TOP);
                    Check.lay(x, size == 149 ? text : "perm 2 4 3" + " ".repeat(131));
                };
                Twins.changesNothing("feed at " + size, before, x -> due("feed", x.feed(MAX, 1, 2, 3, 4), -1));
            }
            GrassCells x = fed(141);
            x.feed(0, 0, 0, 0, 0);
            due("count(9)", x.count(9), 141);
        });
    }

    private static void end() {
        Check.holds("Promise 3, end: the TAPE has its first n bytes alone: n", () -> {
            GrassCells x = new GrassCells();
            Check.lay(x, "perm 1 2 3");
            due("end(8)", x.end(8), 8);
            due("count(9)", x.count(9), 8);
            due("cell", x.cell(), 2);
        });
        Check.holds("Promise 3, end: none of the bytes behind comes back", () -> {
            GrassCells x = new GrassCells();
            Check.lay(x, "perm 1 2 3");
            x.end(8);
            due("end(9)", x.end(9), -1);
            due("feed", x.feed(Check.word(" 6 ", 0), 0, 0, 0, 0), 28);
            x.end(10);
            due("cell", x.cell(), 3);
            due("f(3)", x.f(3), 6);
        });
        Check.holds("Promise 3, end: NONE, if it has not so many", () -> {
            due("end(0) of 0", new GrassCells().end(0), 0);
            due("end(1) of 0", new GrassCells().end(1), -1);
            due("end(20) of 20", fed(20).end(20), 20);
            due("end(21) of 20", fed(20).end(21), -1);
            due("end(160) of 160", fed(160).end(160), 160);
            due("end(161) of 160", fed(160).end(161), -1);
            due("end(MAX) of 160", fed(160).end(MAX), -1);
        });
        Check.holds("Promise 3, end: NONE, if n is below 0", () -> {
            due("end(0) of 20", fed(20).end(0), 0);
            due("end(-1) of 20", fed(20).end(-1), -1);
            due("end(MIN) of 20", fed(20).end(MIN), -1);
        });
        Check.holds("Promise 3, end: .. and nothing happens", () -> {
            for (int n : new int[] {-1, MIN, 11, 160, 161, MAX}) {
                Twins.changesNothing("end(" + n + ")", CallEdgesTest::used, x -> due("end", x.end(n), -1));
            }
        });
        Check.holds("Promise 3, end: the CELL and all else stay", () -> {
            Twins.differInNothing("end(0)", x -> {
                Check.tell(x, TOP);
                x.keep(0);
            }, x -> {
                Check.tell(x, TOP);
                x.keep(0);
                x.feed(1, 2, 3, 4, 5);
                due("end(0)", x.end(0), 0);
            });
        });
    }

    // a label is 1 to N: of the CELLS with the least N and the greatest, and of one with less LABELS than the one ahead
    private static void labelsOf(String call, GrassCells x, IntUnaryOperator answer) {
        for (String text : new String[] {LEAST_N, GREATEST_N, LEAST_N, TOP}) {
            int n = Check.tell(x, text);
            String of = call + " of '" + text + "', label ";
            for (int label : new int[] {MIN, -8, -1, 0, n + 1, 9, 33, MAX}) {
                due(of + label, answer.applyAsInt(label), -1);
            }
            Check.due(of + 1, answer.applyAsInt(1) >= 0, true);
            Check.due(of + n, answer.applyAsInt(n) >= 0, true);
        }
    }

    private static void labels() {
        Check.holds("Promise 5, f: NONE without that label", () -> {
            GrassCells x = new GrassCells();
            labelsOf("f", x, i -> x.f(i));
        });
        Check.holds("Promise 5, f: F(i); NONE without a CELL", () -> {
            due("f(1) without a CELL", new GrassCells().f(1), -1);
            due("f(1)", Check.told(LOOSE).f(1), 1);
            due("f(2)", Check.told(LOOSE).f(2), 6);
            due("f(4)", Check.told(LOOSE).f(4), 7);
            due("f(8)", Check.told("perm 1 2 3 4 5 6 7 16").f(8), 16);
        });
        Check.holds("Promise 6, neck: NONE without these (1 to N)", () -> {
            GrassCells x = new GrassCells();
            labelsOf("neck", x, i -> x.neck(i));
        });
        Check.holds("Promise 6, neck: the i-th SET, as bits (label 1 the lowest); NONE without a CELL", () -> {
            due("neck(1) without a CELL", new GrassCells().neck(1), -1);
            due("neck(1)", Check.told("neck 8 8 8 8 8 8 8 8").neck(1), 128);
            due("neck(2)", Check.told("neck 1 1").neck(2), 1);
            due("neck(1) of K 0", Check.told("perm 1 2").neck(1), 0);
            due("neck(4)", Check.told(LOOSE).neck(4), 10);
        });
    }

    private static void box() {
        Check.holds("Promise 7, box: 1 for +, 0", () -> {
            GrassCells x = Check.told("fill dll/+0");
            due("box(1, 3)", x.box(1, 3), 1);
            due("box(1, 2)", x.box(1, 2), 0);
        });
        Check.holds("Promise 7, box: -2: there is no such BOX", () -> {
            GrassCells x = Check.told("fill ldld/+/");
            due("box(2, 3)", x.box(2, 3), 1);
            due("no d at 1", x.box(1, 3), -2);
            due("d at 4, too", x.box(2, 4), -2);
            due("l at 1 is not above 2", x.box(2, 1), -2);
            due("l at 3 is not above 4", x.box(4, 3), -2);
            due("one label", x.box(2, 2), -2);
            due("one label", x.box(3, 3), -2);
            due("box(3, 2)", x.box(3, 2), -2);
        });
        Check.holds("Promise 7, box: -2 for all of K 0 and of K N", () -> {
            due("K 0", Check.told("perm 1 2").box(1, 2), -2);
            due("K N", Check.told("perm 3 4").box(1, 2), -2);
        });
        Check.holds("Promise 7, box: NONE without these labels", () -> {
            GrassCells x = Check.told(LEAST_N);
            due("box(1, 2)", x.box(1, 2), 1);
            for (int wrong : new int[] {MIN, -1, 0, 3, 9, MAX}) {
                due("box(1, " + wrong + ")", x.box(1, wrong), -1);
                due("box(" + wrong + ", 2)", x.box(wrong, 2), -1);
                due("box(" + wrong + ", " + wrong + ")", x.box(wrong, wrong), -1);
            }
            GrassCells y = Check.told(GREATEST_N);
            due("box(1, 8)", y.box(1, 8), 1);
            due("box(1, 9)", y.box(1, 9), -1);
            due("box(9, 8)", y.box(9, 8), -1);
            Check.tell(y, LEAST_N);
            due("box(1, 8) of fewer LABELS", y.box(1, 8), -1);
            due("box(1, 2) without a CELL", new GrassCells().box(1, 2), -1);
        });
    }

    private static void bases() {
        Check.holds("Promise 8, bases: how many; NONE without a CELL", () -> {
            due("without a CELL", new GrassCells().bases(), -1);
            due("of K 0", Check.told("perm 1 2").bases(), 1);
            due("of K N", Check.told("perm 3 4").bases(), 1);
            due("the most", Check.told(GREATEST_N).bases(), 70);
        });
        Check.holds("Promise 9, basis: -2: there are not so many", () -> {
            GrassCells x = Check.told(TOP);
            due("basis(5)", x.basis(5), set("34"));
            due("basis(6)", x.basis(6), -2);
            due("basis(MAX)", x.basis(MAX), -2);
            GrassCells y = Check.told(GREATEST_N);
            due("basis(69)", y.basis(69), set("5678"));
            due("basis(70)", y.basis(70), -2);
            Check.tell(y, LEAST_N);
            due("basis(2) of fewer", y.basis(2), -2);
            due("basis(0) of K 0", Check.told("perm 1 2").basis(0), 0);
            due("basis(1) of K 0", Check.told("perm 1 2").basis(1), -2);
        });
        Check.holds("Promise 9, basis: NONE for k below 0", () -> {
            due("basis(0)", Check.told(TOP).basis(0), set("12"));
            due("basis(-1)", Check.told(TOP).basis(-1), -1);
            due("basis(MIN)", Check.told(TOP).basis(MIN), -1);
        });
        Check.holds("Promise 9, basis: NONE without a CELL", () -> {
            due("basis(0)", new GrassCells().basis(0), -1);
            due("basis(1)", new GrassCells().basis(1), -1);
        });
    }

    private static void rank() {
        Check.holds("Promise 10, rank: NONE without these labels", () -> {
            GrassCells x = new GrassCells();
            for (String text : new String[] {GREATEST_N, LEAST_N}) {
                int above = 1 << Check.tell(x, text);
                due("rank(0) of " + text, x.rank(0), 0);
                due("rank of all, " + text, x.rank(above - 1), x.count(1));
                for (int wrong : new int[] {above, above + 1, MAX, -1, -2, MIN, MIN + 1, 1 << 30}) {
                    due("rank(" + wrong + ") of " + text, x.rank(wrong), -1);
                }
            }
        });
        Check.holds("Promise 10, rank: NONE without a CELL", () -> {
            due("rank(0)", new GrassCells().rank(0), -1);
            due("rank(1)", new GrassCells().rank(1), -1);
        });
    }

    private static void exchange() {
        Check.holds("Promise 11, exchange: NONE, if these are no such BASES", () -> {
            GrassCells x = Check.told(LOOSE);
            due("exchange(23, 24, 3)", x.exchange(set("23"), set("24"), 3), 4);
            due("the one is no BASIS", x.exchange(set("34"), set("24"), 3), -1);
            due("the other is no BASIS", x.exchange(set("23"), set("14"), 3), -1);
            due("the one has K + 1 labels", x.exchange(set("234"), set("24"), 3), -1);
            due("the other has K - 1 labels", x.exchange(set("23"), set("4"), 3), -1);
            due("the one has label 5", x.exchange(set("25"), set("24"), 5), -1);
            due("the other has label 5", x.exchange(set("23"), set("25"), 3), -1);
            for (int wrong : new int[] {-1, MIN, MIN + 6, MAX, 256 + 6, 1 << 30}) {
                due("the one is " + wrong, x.exchange(wrong, set("24"), 3), -1);
                due("the other is " + wrong, x.exchange(set("23"), wrong, 3), -1);
            }
        });
        Check.holds("Promise 11, exchange: NONE, if this is no such label (of A, not of B)", () -> {
            GrassCells x = Check.told(LOOSE);
            due("of both", x.exchange(set("23"), set("24"), 2), -1);
            due("of B alone", x.exchange(set("23"), set("24"), 4), -1);
            due("of none", x.exchange(set("23"), set("24"), 1), -1);
            due("A and B are one", x.exchange(set("23"), set("23"), 3), -1);
            for (int wrong : new int[] {MIN, -29, -1, 0, 5, 9, 32 + 3, 64 + 3, MAX}) {
                due("label " + wrong, x.exchange(set("23"), set("24"), wrong), -1);
            }
            GrassCells top = Check.told(LEAST_N);
            due("label 1", top.exchange(1, 2, 1), 2);
            due("label N", top.exchange(2, 1, 2), 1);
        });
        Check.holds("Promise 11, exchange: NONE without a CELL", () -> {
            due("exchange(1, 2, 1)", new GrassCells().exchange(1, 2, 1), -1);
            due("exchange(0, 0, 0)", new GrassCells().exchange(0, 0, 0), -1);
        });
        Check.holds("Promise 11, exchange: -2 never is due: among BASES there is always one", () -> {
            GrassCells x = Check.told("perm 2 5 4 7");
            for (int one = 0; one < 4; one++) {
                for (int other = 0; other < 4; other++) {
                    for (int label = 1; label <= 4; label++) {
                        int a = x.basis(one);
                        int b = x.basis(other);
                        boolean such = (a & ~b & 1 << (label - 1)) != 0;
                        Check.due("exchange", x.exchange(a, b, label) > 0, such);
                    }
                }
            }
        });
    }

    private static void part() {
        Check.holds("Promise 12, part: the least label of the PART; NONE without it", () -> {
            GrassCells x = new GrassCells();
            due("part(1) without a CELL", x.part(1), -1);
            labelsOf("part", x, i -> x.part(i));
            due("part(3)", Check.told(LOOSE).part(3), 3);
            due("part(4)", Check.told(LOOSE).part(4), 3);
        });
    }

    private static void ways() {
        Check.holds("Promise 13, ways: NONE, if it is no SET of K labels", () -> {
            GrassCells x = Check.told(TOP);
            due("K labels", x.ways(set("34")), 1);
            due("K - 1 labels", x.ways(set("4")), -1);
            due("K + 1 labels", x.ways(set("234")), -1);
            due("no labels", x.ways(0), -1);
            due("label N + 1", x.ways(set("15")), -1);
            for (int wrong : new int[] {-1, MIN, MIN + 1, MAX, 1 << 8 | 1, 1 << 30 | 1}) {
                due("ways(" + wrong + ")", x.ways(wrong), -1);
            }
            due("K 0", Check.told("perm 1 2").ways(0), 1);
            due("K 0, a label", Check.told("perm 1 2").ways(1), -1);
            due("K 0, bits above N", Check.told("perm 1 2").ways(MIN), -1);
            due("K N", Check.told("perm 3 4").ways(3), 1);
            due("N 8", Check.told(GREATEST_N).ways(set("5678")), 1);
        });
        Check.holds("Promise 13, ways: NONE without a CELL", () -> {
            due("ways(0)", new GrassCells().ways(0), -1);
            due("ways(1)", new GrassCells().ways(1), -1);
        });
    }

    private static void cross() {
        Check.holds("Promise 14, cross: NONE, if they are no SETS of K labels", () -> {
            GrassCells x = Check.told(TOP);
            due("SETS of K", x.cross(set("13"), set("24")), 1);
            for (int wrong : new int[] {0, set("1"), set("134"), set("15"), -1, MIN, MAX, 1 << 30 | 1}) {
                due("cross(" + wrong + ", 24)", x.cross(wrong, set("24")), -1);
                due("cross(13, " + wrong + ")", x.cross(set("13"), wrong), -1);
            }
            due("SETS of K that are no BASES", Check.told(LOOSE).cross(set("13"), set("24")), 1);
            due("K 0", Check.told("perm 1 2").cross(0, 0), 0);
        });
        Check.holds("Promise 14, cross: NONE without a CELL", () -> {
            due("cross(0, 0)", new GrassCells().cross(0, 0), -1);
            due("cross(5, 10)", new GrassCells().cross(5, 10), -1);
        });
    }

    private static void cluster() {
        Check.holds("Promise 15, cluster: k NONE: how many", () -> {
            due("top", Check.told(TOP).cluster(-1), 5);
            due("K 0", Check.told("perm 1 2").cluster(-1), 1);
            due("the most", Check.told(GREATEST_N).cluster(-1), 17);
        });
        Check.holds("Promise 15, cluster: -2: there are not so many", () -> {
            GrassCells x = Check.told(TOP);
            due("cluster(4)", x.cluster(4), set("34"));
            due("cluster(5)", x.cluster(5), -2);
            due("cluster(MAX)", x.cluster(MAX), -2);
            GrassCells y = Check.told(GREATEST_N);
            due("cluster(16)", y.cluster(16), set("5678"));
            due("cluster(17)", y.cluster(17), -2);
            Check.tell(y, LEAST_N);
            due("cluster(2) of fewer", y.cluster(2), -2);
        });
        Check.holds("Promise 15, cluster: NONE for k below NONE", () -> {
            due("cluster(-2)", Check.told(TOP).cluster(-2), -1);
            due("cluster(MIN)", Check.told(TOP).cluster(MIN), -1);
        });
        Check.holds("Promise 15, cluster: NONE without a CELL", () -> {
            due("cluster(-2)", new GrassCells().cluster(-2), -1);
            due("cluster(-1)", new GrassCells().cluster(-1), -1);
            due("cluster(0)", new GrassCells().cluster(0), -1);
        });
        Check.holds("Promise 15, cluster: by their numbers as bits, also after a MOVE", () -> {
            GrassCells x = Check.told(FIVE);
            x.move(set("14"));
            int last = 0;
            for (int k = 0; k < 7; k++) {
                Check.due("cluster(" + k + ") is above the one ahead", x.cluster(k) > last, true);
                last = x.cluster(k);
            }
        });
    }

    private static void square() {
        Check.holds("Promise 16, square: k NONE: how many", () -> {
            due("top of 4", Check.told(TOP).square(-1), 1);
            due("top of 5", Check.told(FIVE).square(-1), 2);
            due("none", Check.told(LOOSE).square(-1), 0);
            due("K 0", Check.told("perm 1 2").square(-1), 0);
        });
        Check.holds("Promise 16, square: by their numbers as bits; -2: there are not so many", () -> {
            GrassCells x = Check.told(FIVE);
            due("square(0)", x.square(0), set("13"));
            due("square(1)", x.square(1), set("14"));
            due("square(2)", x.square(2), -2);
            due("square(MAX)", x.square(MAX), -2);
            x.move(set("13"));
            due("square(0) then", x.square(0), set("14"));
            due("square(1) then", x.square(1), set("24"));
            due("square(0) of none", Check.told(LOOSE).square(0), -2);
        });
        Check.holds("Promise 16, square: NONE for k below NONE", () -> {
            due("square(-2)", Check.told(TOP).square(-2), -1);
            due("square(MIN)", Check.told(TOP).square(MIN), -1);
        });
        Check.holds("Promise 16, square: NONE without a CELL", () -> {
            due("square(-1)", new GrassCells().square(-1), -1);
            due("square(0)", new GrassCells().square(0), -1);
        });
    }

    private static void move() {
        Check.holds("Promise 17, move: the SET that takes its place, an ACT", () -> {
            GrassCells x = Check.told(TOP);
            due("move(13)", x.move(set("13")), set("24"));
            due("count(7)", x.count(7), 2);
            due("the CELL is left", x.count(2), 4);
        });
        Check.holds("Promise 17, move: -2, and nothing happens: there is no SQUARE", () -> {
            int[] none = {set("13"), set("12"), set("34"), 0, set("1"), set("134"), 1 << 8, MIN, -1, MAX};
            for (int wrong : none) {
                Twins.changesNothing("move(" + wrong + ")", CallEdgesTest::used, x -> due("move", x.move(wrong), -2));
            }
            due("K 0", Check.told("perm 1 2").move(0), -2);
        });
        Check.holds("Promise 17, move: NONE, and nothing happens, without a CELL", () -> {
            for (int wrong : new int[] {0, set("13"), -1, MAX}) {
                Twins.changesNothing("move(" + wrong + ")", none(), x -> due("move", x.move(wrong), -1));
            }
            GrassCells x = Check.told(TOP);
            x.undo();
            due("move(13) of a CELL that is UNDONE", x.move(set("13")), -1);
        });
    }

    private static void lowerAndUpper() {
        Check.holds("Promise 18, lower: i 0: how many there are (whatever k is)", () -> {
            GrassCells x = Check.told(TOP);
            for (int k : new int[] {MIN, -2, -1, 0, 3, 4, MAX}) {
                due("lower(" + k + ", 0)", x.lower(k, 0), 4);
            }
            due("none", Check.told("perm 1 4").lower(0, 0), 0);
        });
        Check.holds("Promise 18, lower: -2: there are not so many", () -> {
            GrassCells x = Check.told(TOP);
            due("lower(3, 1)", x.lower(3, 1), 2);
            due("lower(3, 4)", x.lower(3, 4), 7);
            due("lower(4, 1)", x.lower(4, 1), -2);
            due("lower(MAX, 4)", x.lower(MAX, 4), -2);
            due("lower(0, 1) of none", Check.told("perm 1 4").lower(0, 1), -2);
        });
        Check.holds("Promise 18, lower: NONE without these (a CELL, k, a label)", () -> {
            GrassCells x = Check.told(TOP);
            due("lower(0, 1)", x.lower(0, 1), 4);
            for (int wrong : new int[] {MIN, -1, 5, 9, MAX}) {
                due("lower(0, " + wrong + ")", x.lower(0, wrong), -1);
                due("lower(9, " + wrong + ")", x.lower(9, wrong), -1);
            }
            GrassCells y = Check.told(GREATEST_N);
            Check.due("lower(0, 8) of N 8", y.lower(0, 8) >= 8, true);
            due("lower(0, 9) of N 8", y.lower(0, 9), -1);
            due("lower(-1, 1)", x.lower(-1, 1), -1);
            due("lower(MIN, 4)", x.lower(MIN, 4), -1);
            due("lower(0, 0) without a CELL", new GrassCells().lower(0, 0), -1);
            due("lower(0, 1) without a CELL", new GrassCells().lower(0, 1), -1);
        });
        Check.holds("Promise 19, upper: i 0: how many there are (whatever k is)", () -> {
            GrassCells x = Check.told("perm 5 6 3 4");
            for (int k : new int[] {MIN, -2, -1, 0, 3, 4, MAX}) {
                due("upper(" + k + ", 0)", x.upper(k, 0), 4);
            }
            due("none", Check.told(TOP).upper(0, 0), 0);
        });
        Check.holds("Promise 19, upper: -2: there are not so many", () -> {
            GrassCells x = Check.told("perm 5 6 3 4");
            due("upper(3, 1)", x.upper(3, 1), 5);
            due("upper(3, 4)", x.upper(3, 4), 6);
            due("upper(4, 1)", x.upper(4, 1), -2);
            due("upper(MAX, 4)", x.upper(MAX, 4), -2);
            due("upper(0, 1) of none", Check.told(TOP).upper(0, 1), -2);
        });
        Check.holds("Promise 19, upper: NONE without these (a CELL, k, a label)", () -> {
            GrassCells x = Check.told("perm 5 6 3 4");
            due("upper(0, 1)", x.upper(0, 1), 3);
            for (int wrong : new int[] {MIN, -1, 5, 9, MAX}) {
                due("upper(0, " + wrong + ")", x.upper(0, wrong), -1);
                due("upper(9, " + wrong + ")", x.upper(9, wrong), -1);
            }
            GrassCells y = Check.told("perm 9 2 3 4 5 6 7 8");
            Check.due("upper(0, 8) of N 8", y.upper(0, 8) >= 8, true);
            due("upper(0, 9) of N 8", y.upper(0, 9), -1);
            due("upper(-1, 1)", x.upper(-1, 1), -1);
            due("upper(MIN, 4)", x.upper(MIN, 4), -1);
            due("upper(0, 0) without a CELL", new GrassCells().upper(0, 0), -1);
            due("upper(0, 1) without a CELL", new GrassCells().upper(0, 1), -1);
        });
    }

    private static void downAndUp() {
        Check.holds("Promise 20, down: to the k-th LOWER one (0 the first): DIM then", () -> {
            GrassCells x = Check.told(TOP);
            due("down(0)", x.down(0), 3);
            due("f(1)", x.f(1), 4);
            GrassCells y = Check.told(TOP);
            due("down(3)", y.down(3), 3);
            due("f(1)", y.f(1), 2);
            due("down to a point", Check.told(LEAST_N).down(1), 0);
        });
        Check.holds("Promise 20, down: -2, and nothing happens: there are not so many", () -> {
            for (int k : new int[] {4, 5, MAX}) {
                Twins.changesNothing("down(" + k + ")", CallEdgesTest::used, x -> due("down", x.down(k), -2));
            }
            Twins.changesNothing("down(0) of a point", x -> Check.tell(x, "perm 1 4"), x -> due("down", x.down(0), -2));
        });
        Check.holds("Promise 20, down: NONE, and nothing happens, without a CELL, or for k below 0", () -> {
            for (int k : new int[] {-1, MIN}) {
                Twins.changesNothing("down(" + k + ")", CallEdgesTest::used, x -> due("down", x.down(k), -1));
            }
            for (int k : new int[] {-1, 0, 1}) {
                Twins.changesNothing("down(" + k + ") without a CELL", none(), x -> due("down", x.down(k), -1));
            }
        });
        Check.holds("Promise 21, up: to the k-th UPPER one (0 the first): DIM then", () -> {
            GrassCells x = Check.told("perm 5 6 3 4");
            due("up(0)", x.up(0), 1);
            due("f(1)", x.f(1), 3);
            GrassCells y = Check.told("perm 5 6 3 4");
            due("up(3)", y.up(3), 1);
            due("f(1)", y.f(1), 5);
            due("up to the greatest", Check.told("perm 4 3 5 6").up(0), 4);
        });
        Check.holds("Promise 21, up: -2, and nothing happens: there are not so many", () -> {
            for (int k : new int[] {0, 1, MAX}) {
                Twins.changesNothing("up(" + k + ")", CallEdgesTest::used, x -> due("up", x.up(k), -2));
            }
            Twins.changesNothing("up(4)", x -> Check.tell(x, "perm 5 6 3 4"), x -> due("up", x.up(4), -2));
        });
        Check.holds("Promise 21, up: NONE, and nothing happens, without a CELL, or for k below 0", () -> {
            for (int k : new int[] {-1, MIN}) {
                Twins.changesNothing("up(" + k + ")", CallEdgesTest::used, x -> due("up", x.up(k), -1));
                Twins.changesNothing("up(" + k + ")", x -> Check.tell(x, "perm 5 6 3 4"), x -> due("up", x.up(k), -1));
            }
            for (int k : new int[] {-1, 0, 1}) {
                Twins.changesNothing("up(" + k + ") without a CELL", none(), x -> due("up", x.up(k), -1));
            }
        });
    }

    private static void symmetries() {
        Check.holds("Promise 22, turn: true", () -> Check.due("turn", Check.told(TOP).turn(), true));
        Check.holds("Promise 22, turn: false, and nothing happens, without a CELL", () ->
                Twins.changesNothing("turn", none(), x -> Check.due("turn", x.turn(), false)));
        Check.holds("Promise 22, turn: N times turned it is as it was", () -> {
            GrassCells x = Check.told("perm 1 4 5 8 7");
            for (int times = 0; times < 5; times++) {
                x.turn();
            }
            Check.due("F", Check.perm(x).equals("perm 1 4 5 8 7"), true);
        });
        Check.holds("Promise 23, mirror: true", () -> Check.due("mirror", Check.told(TOP).mirror(), true));
        Check.holds("Promise 23, mirror: false, and nothing happens, without a CELL", () ->
                Twins.changesNothing("mirror", none(), x -> Check.due("mirror", x.mirror(), false)));
        Check.holds("Promise 24, complement: true", () -> Check.due("complement", Check.told(TOP).complement(), true));
        Check.holds("Promise 24, complement: false, and nothing happens, without a CELL", () ->
                Twins.changesNothing("complement", none(), x -> Check.due("complement", x.complement(), false)));
    }

    private static void undo() {
        Check.holds("Promise 25, undo: the last ACT is UNDONE: how many more can be", () -> {
            GrassCells x = Check.told(LOOSE);
            x.turn();
            x.down(0);
            due("undo", x.undo(), 2);
            due("undo", x.undo(), 1);
            due("undo", x.undo(), 0);
            due("no CELL", x.count(0), -1);
        });
        Check.holds("Promise 25, undo: each kind of ACT as if it had not been", () -> {
            undone("a CELL told", x -> Check.tell(x, "perm 1 2 6"));
            undone("TURN", x -> x.turn());
            undone("MIRROR", x -> x.mirror());
            undone("COMPLEMENT", x -> x.complement());
            undone("DOWN", x -> x.down(2));
            undone("a MOVE", x -> x.move(set("24")));
            Twins.differInNothing("UP, UNDONE", x -> Check.tell(x, "perm 5 6 3 4"), x -> {
                Check.tell(x, "perm 5 6 3 4");
                x.up(2);
                x.undo();
            });
        });
        Check.holds("Promise 25, undo: NONE, and nothing happens, if none can", () -> {
            Twins.changesNothing("undo", none(), x -> due("undo", x.undo(), -1));
            Twins.changesNothing("undo of no ACT with a CELL", CallEdgesTest::turnedTooOften,
                    x -> due("undo", x.undo(), -1));
        });
        Check.holds("Promise 25, undo: the TAPE and the SHELVES stay", () -> {
            GrassCells x = Check.told(TOP);
            x.keep(2);
            x.turn();
            x.keep(0);
            Check.lay(x, "perm");
            x.undo();
            due("SHELVES", x.count(8), 5);
            due("TAPE", x.count(9), 4);
        });
    }

    private static void undone(String act, Consumer<GrassCells> calls) {
        Consumer<GrassCells> before = x -> {
            Check.tell(x, TOP);
            x.keep(1);
            x.move(set("13"));
        };
        Twins.changesNothing(act + ", UNDONE", before, x -> {
            calls.accept(x);
            due("undo", x.undo(), 2);
        });
    }

    private static void turnedTooOften(GrassCells x) {
        Check.tell(x, LOOSE);
        for (int turns = 0; turns < 20; turns++) {
            x.turn();
        }
        for (int turns = 0; turns < 20; turns++) {
            x.undo();
        }
    }

    private static void howMany() {
        Check.holds("Promise 26, howMany: N 2 to 7; NONE for others", () -> {
            GrassCells x = new GrassCells();
            due("howMany(2, 1, 1)", x.howMany(2, 1, 1), 1);
            due("howMany(7, 1, 6)", x.howMany(7, 1, 6), 1);
            for (int wrong : new int[] {MIN, -1, 0, 1, 8, MAX}) {
                due("howMany(" + wrong + ", 1, 0)", x.howMany(wrong, 1, 0), -1);
                due("howMany(" + wrong + ", 0, 0)", x.howMany(wrong, 0, 0), -1);
            }
        });
        Check.holds("Promise 26, howMany: K 0 to N; NONE for others", () -> {
            GrassCells x = new GrassCells();
            for (int n = 2; n <= 7; n++) {
                due("howMany(" + n + ", 0, 0)", x.howMany(n, 0, 0), 1);
                due("howMany(" + n + ", N, 0)", x.howMany(n, n, 0), 1);
                due("howMany(" + n + ", -1, 0)", x.howMany(n, -1, 0), -1);
                due("howMany(" + n + ", N + 1, 0)", x.howMany(n, n + 1, 0), -1);
            }
            due("howMany(5, MIN, 0)", x.howMany(5, MIN, 0), -1);
            due("howMany(5, MAX, 0)", x.howMany(5, MAX, 0), -1);
        });
        Check.holds("Promise 26, howMany: DIM 0 and on; NONE for others", () -> {
            GrassCells x = new GrassCells();
            due("howMany(4, 2, -1)", x.howMany(4, 2, -1), -1);
            due("howMany(4, 2, MIN)", x.howMany(4, 2, MIN), -1);
            due("howMany(4, 2, 0)", x.howMany(4, 2, 0), 6);
            due("howMany(4, 2, 4)", x.howMany(4, 2, 4), 1);
            due("howMany(4, 2, 5)", x.howMany(4, 2, 5), 0);
            due("howMany(4, 2, MAX)", x.howMany(4, 2, MAX), 0);
            due("howMany(7, 3, 12)", x.howMany(7, 3, 12), 1);
            due("howMany(7, 4, 12)", x.howMany(7, 4, 12), 1);
            due("howMany(7, 4, 13)", x.howMany(7, 4, 13), 0);
            due("howMany(7, 0, 1)", x.howMany(7, 0, 1), 0);
        });
        Check.holds("Promise 26, howMany: how many CELLS of N and K have so great a DIM", () -> {
            GrassCells x = Check.told(GREATEST_N);
            int[] all = {6, 12, 10, 4, 1};
            for (int dim = 0; dim <= 4; dim++) {
                due("howMany(4, 2, " + dim + ")", x.howMany(4, 2, dim), all[dim]);
                due("howMany(3, 1, " + dim + ")", x.howMany(3, 1, dim), new int[] {3, 3, 1, 0, 0}[dim]);
            }
            int[] ofSix = {20, 90, 180, 215, 180, 114, 56, 21, 6, 1, 0};
            for (int dim = 0; dim <= 10; dim++) {
                due("howMany(6, 3, " + dim + ")", x.howMany(6, 3, dim), ofSix[dim]);
            }
            int ofSeven = 0;
            for (int size = 0; size <= 7; size++) {
                for (int dim = 0; dim <= 12; dim++) {
                    ofSeven += x.howMany(7, size, dim);
                    due("as many of N - K", x.howMany(7, size, dim), x.howMany(7, 7 - size, dim));
                }
            }
            due("all CELLS of 7", ofSeven, 13700);
        });
    }

    private static void keep() {
        Check.holds("Promise 27, keep: DIM", () -> {
            due("keep(0)", Check.told(TOP).keep(0), 4);
            due("keep(3)", Check.told("perm 1 2").keep(3), 0);
            due("keep(1)", Check.told(GREATEST_N).keep(1), 16);
        });
        Check.holds("Promise 27, keep: NONE, and nothing happens, without such a SHELF", () -> {
            for (int shelf : new int[] {MIN, -1, 4, 32, MAX}) {
                Twins.changesNothing("keep(" + shelf + ")", CallEdgesTest::used, x -> due("keep", x.keep(shelf), -1));
            }
        });
        Check.holds("Promise 27, keep: NONE, and nothing happens, without a CELL", () -> {
            for (int shelf : new int[] {-1, 0, 3, 4}) {
                Twins.changesNothing("keep(" + shelf + ")", none(), x -> due("keep", x.keep(shelf), -1));
            }
            GrassCells x = Check.told(TOP);
            x.keep(0);
            x.undo();
            due("keep(0) of a CELL that is UNDONE", x.keep(0), -1);
            Check.tell(x, TOP);
            due("what was KEPT ahead of it", x.has(0), 1);
        });
        Check.holds("Promise 27, keep: it is no ACT, and the CELL KEPT does not change with the CELL", () -> {
            GrassCells x = Check.told(TOP);
            x.keep(0);
            due("count(7)", x.count(7), 1);
            x.down(0);
            due("has(0)", x.has(0), 0);
            x.up(0);
            due("has(0) of the same again", x.has(0), 1);
        });
    }

    private static void has() {
        Check.holds("Promise 28, has: 1, 0", () -> {
            GrassCells x = Check.told("perm 4 3 5 6");
            x.keep(0);
            due("itself", x.has(0), 1);
            x.down(0);
            due("an UPPER one", x.has(0), 0);
            x.undo();
            x.up(0);
            due("a LOWER one", x.has(0), 1);
        });
        Check.holds("Promise 28, has: -2: nothing is KEPT there", () -> {
            GrassCells x = Check.told(TOP);
            for (int shelf = 0; shelf <= 3; shelf++) {
                due("has(" + shelf + ")", x.has(shelf), -2);
            }
            x.keep(1);
            due("has(0)", x.has(0), -2);
            due("has(1)", x.has(1), 1);
            due("has(2)", x.has(2), -2);
        });
        Check.holds("Promise 28, has: NONE without these (a CELL, a SHELF)", () -> {
            GrassCells x = Check.told(TOP);
            x.keep(0);
            x.keep(3);
            for (int shelf : new int[] {MIN, -1, 4, 32, MAX}) {
                due("has(" + shelf + ")", x.has(shelf), -1);
            }
            x.undo();
            due("has(0) without a CELL", x.has(0), -1);
            due("has(1) without a CELL", x.has(1), -1);
            due("has(4) without a CELL", x.has(4), -1);
        });
    }

    private static void count() {
        Check.holds("Promise 29, count: what 0 to 9", () -> {
            GrassCells x = Check.told("perm 1 3 5 4 8 12");
            x.keep(1);
            x.keep(3);
            x.feed(0, 0, 0, 0, 0);
            int[] all = {6, 2, 2, 6, set("14"), set("6"), 4, 1, 10, 20};
            for (int what = 0; what <= 9; what++) {
                due("count(" + what + ")", x.count(what), all[what]);
            }
        });
        Check.holds("Promise 29, count: NONE for others", () -> {
            for (int wrong : new int[] {MIN, -2, -1, 10, 11, 16, MAX}) {
                due("count(" + wrong + ")", Check.told(TOP).count(wrong), -1);
                due("count(" + wrong + ") without a CELL", new GrassCells().count(wrong), -1);
            }
        });
        Check.holds("Promise 29, count: 0 to 6 NONE without a CELL, 7 to 9 not", () -> {
            GrassCells x = Check.told(TOP);
            x.keep(2);
            x.undo();
            x.feed(0, 0, 0, 0, 0);
            for (int what = 0; what <= 6; what++) {
                due("count(" + what + ")", x.count(what), -1);
            }
            due("count(7)", x.count(7), 0);
            due("count(8)", x.count(8), 4);
            due("count(9)", x.count(9), 20);
        });
        Check.holds("Promise 29, count: 7: ACTS that can be UNDONE, 20 at most", () -> {
            GrassCells x = Check.told(TOP);
            for (int acts = 1; acts <= 20; acts++) {
                due("count(7) after " + acts, x.count(7), acts);
                x.turn();
            }
            due("count(7) after 21", x.count(7), 20);
            x.undo();
            due("count(7) after undo", x.count(7), 19);
        });
        Check.holds("Promise 29, count: 9: bytes of the TAPE, 0 to 160", () -> {
            due("none", fed(0).count(9), 0);
            due("some", fed(33).count(9), 33);
            due("the most", fed(160).count(9), 160);
        });
    }

    // every question, with arguments of all sorts, leaves all as it was
    private static void questions() {
        Check.holds("Promises 5 to 16, 18, 19, 26, 28, 29: a question changes nothing, answered or refused", () -> {
            for (int a : new int[] {MIN, -2, -1, 0, 1, 4, 5, 9, MAX}) {
                Consumer<GrassCells> ask = x -> {
                    x.f(a);
                    x.neck(a);
                    x.bases();
                    x.basis(a);
                    x.rank(a);
                    x.part(a);
                    x.ways(a);
                    x.cluster(a);
                    x.square(a);
                    x.has(a);
                    x.count(a);
                    for (int b : new int[] {-1, 0, 2, 10}) {
                        x.box(a, b);
                        x.cross(a, b);
                        x.lower(a, b);
                        x.upper(b, a);
                        x.exchange(a, b, 1);
                        x.howMany(4, b, a);
                    }
                };
                Twins.changesNothing("questions with " + a, CallEdgesTest::used, ask);
                Twins.changesNothing("questions with " + a + " without a CELL", none(), ask);
            }
        });
    }

    private static void calls() {
        Check.holds("What it is: an object is used for 512 calls: the last one answers, too (ACTS)", () -> {
            GrassCells x = new GrassCells();
            x.feed(Check.word("perm", 0), Check.word(" 1 6", 0), Check.word(" 4 7", 0), 0, 0);
            x.end(12);
            due("cell, the 3rd call", x.cell(), 4);
            for (int call = 4; call <= 509; call++) {
                Check.due("turn, call " + call, x.turn(), true);
            }
            due("count(7), call 510", x.count(7), 20);
            due("undo, call 511", x.undo(), 19);
            due("LOOPS, call 512", x.count(4), set("2"));
        });
        Check.holds("What it is: an object is used for 512 calls: the last one answers, too (the TAPE)", () -> {
            GrassCells x = new GrassCells();
            for (int call = 1; call <= 509; call += 4) {
                due("feed, call " + call, x.feed(Check.word("perm", 0), Check.word(" 1 4", 0), 0, 0, 0), 20);
                due("end, call " + (call + 1), x.end(8), 8);
                due("cell, call " + (call + 2), x.cell(), 2);
                due("f(2), call " + (call + 3), x.f(2), 4);
            }
        });
        Check.holds("What it is: an object is used for 512 calls: the last one answers, too (undo and SHELVES)", () -> {
            GrassCells x = Check.told(TOP);
            for (int call = 5; call + 3 <= 512; call += 4) {
                due("move, call " + call, x.move(set("13")), set("24"));
                due("keep, call " + (call + 1), x.keep(call / 4 & 3), 4);
                due("undo, call " + (call + 2), x.undo(), 1);
                due("square, call " + (call + 3), x.square(0), set("13"));
            }
        });
    }
}
