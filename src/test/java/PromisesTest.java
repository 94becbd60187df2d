/** Each promise by CELLS small enough to be worked out by hand: ordinary calls, the edges, and wrong ones. */
public final class PromisesTest {
    private static final String TOP = "perm 3 4 5 6";
    // label 1 is a LOOP, 2 a COLOOP, 3 and 4 hang together
    private static final String LOOSE = "perm 1 6 4 7";

    private PromisesTest() {
    }

    private static void due(String call, long got, long want) {
        Check.due(call, got, want);
    }

    private static int set(String digits) {
        return Check.set(digits);
    }

    public static void main(String[] args) {
        promise1to3();
        promise4();
        promises5to7();
        promises8and9();
        promises10to12();
        promise13();
        promise14();
        promises15to17();
        promises18and19();
        promises20and21();
        promises22to24();
        promise25();
        promise26();
        promises27and28();
        promise29();
        Check.close("PromisesTest");
    }

    private static void promise1to3() {
        GrassCells x = new GrassCells();
        due("NONE", GrassCells.NONE, -1);
        due("a new object: bases", x.bases(), -1);
        due("a new object: count(0)", x.count(0), -1);
        due("a new object: undo", x.undo(), -1);
        due("a new object: TAPE", x.count(9), 0);
        due("end of an empty TAPE", x.end(0), 0);
        due("end behind an empty TAPE", x.end(1), -1);
        for (int fed = 20; fed <= 160; fed += 20) {
            due("feed", x.feed(-1, 0, fed, 7, Integer.MIN_VALUE), fed);
        }
        due("feed of a full TAPE", x.feed(1, 2, 3, 4, 5), -1);
        due("a full TAPE", x.count(9), 160);
        due("end(161)", x.end(161), -1);
        due("end(-1)", x.end(-1), -1);
        due("end(MIN)", x.end(Integer.MIN_VALUE), -1);
        due("end(160)", x.end(160), 160);
        due("end(141)", x.end(141), 141);
        due("feed without room for all", x.feed(1, 2, 3, 4, 5), -1);
        due("it has 141", x.count(9), 141);
        due("end(140)", x.end(140), 140);
        due("feed with just the room", x.feed(1, 2, 3, 4, 5), 160);
        due("end(0)", x.end(0), 0);
        x.feed(Check.word("xxpe", 0), 0, 0, 0, 0);
        x.end(2);
        due("bytes come behind those left", x.feed(Check.word("1 2 ", 0), 0, 0, 0, 0), 22);
        due("and the first are kept", x.cell(), -3);
    }

    private static void promise4() {
        GrassCells x = new GrassCells();
        Check.lay(x, "perm 3 ");
        x.feed(Check.word("4   ", 0), 0, 0, 0, 0);
        x.end(8);
        due("cell of a text in two pieces", x.cell(), 2);
        due("the TAPE is empty then", x.count(9), 0);
        due("cell of nothing", x.cell(), -3);
        due("a CELL is left", x.count(0), 2);
        due("cell of N 8", Check.tell(x, "perm 5 6 7 8 9 10 11 12"), 8);
        due("cell of K 0", Check.tell(x, "perm 1 2"), 2);
        due("cell of a fault of kind 2", Check.tell(x, "perm 0 1"), -2 - 42);
        due("cell of a fault of kind 3", Check.tell(x, "perm 1 1"), -2 - 59);
    }

    private static void promises5to7() {
        GrassCells x = Check.told("fill ddll / ++ / 0+");
        int[] f = {-1, 3, 4, 6, 5, -1};
        int[] neck = {-1, set("12"), set("23"), set("34"), set("24"), -1};
        for (int i = 0; i <= 5; i++) {
            due("f(" + i + ")", x.f(i), f[i]);
            due("neck(" + i + ")", x.neck(i), neck[i]);
        }
        due("box(1, 4)", x.box(1, 4), 1);
        due("box(1, 3)", x.box(1, 3), 1);
        due("box(2, 4)", x.box(2, 4), 0);
        due("box(2, 3)", x.box(2, 3), 1);
        due("box(3, 4)", x.box(3, 4), -2);
        due("box(3, 1)", x.box(3, 1), -2);
        due("box(1, 2)", x.box(1, 2), -2);
        due("box(1, 1)", x.box(1, 1), -2);
        due("box(0, 3)", x.box(0, 3), -1);
        due("box(1, 5)", x.box(1, 5), -1);
        due("box(MIN, MAX)", x.box(Integer.MIN_VALUE, Integer.MAX_VALUE), -1);
        GrassCells none = new GrassCells();
        due("f without a CELL", none.f(1), -1);
        due("neck without a CELL", none.neck(1), -1);
        due("box without a CELL", none.box(1, 2), -1);
        GrassCells empty = Check.told("perm 1 2 3");
        due("neck of K 0", empty.neck(3), 0);
        due("box of K 0", empty.box(1, 2), -2);
    }

    private static void promises8and9() {
        GrassCells x = Check.told(TOP);
        int[] all = {3, 5, 6, 9, 10, 12, -2, -2};
        due("bases", x.bases(), 6);
        for (int k = 0; k < all.length; k++) {
            due("basis(" + k + ")", x.basis(k), all[k]);
        }
        due("basis(-1)", x.basis(-1), -1);
        due("basis(MAX)", x.basis(Integer.MAX_VALUE), -2);
        GrassCells loose = Check.told(LOOSE);
        due("bases", loose.bases(), 2);
        due("basis(0)", loose.basis(0), set("23"));
        due("basis(1)", loose.basis(1), set("24"));
        GrassCells empty = Check.told("perm 1 2 3");
        due("bases of K 0", empty.bases(), 1);
        due("basis(0) of K 0", empty.basis(0), 0);
        due("basis(1) of K 0", empty.basis(1), -2);
        due("bases of N 8 and K 4", Check.told("perm 5 6 7 8 9 10 11 12").bases(), 70);
        due("bases without a CELL", new GrassCells().bases(), -1);
        due("basis without a CELL", new GrassCells().basis(0), -1);
    }

    private static void promises10to12() {
        GrassCells x = Check.told(LOOSE);
        due("rank of none", x.rank(0), 0);
        due("rank of the LOOP", x.rank(set("1")), 0);
        due("rank of 3 and 4", x.rank(set("34")), 1);
        due("rank of 1, 2, 4", x.rank(set("124")), 2);
        due("rank of all", x.rank(15), 2);
        due("rank of label 5", x.rank(16), -1);
        due("rank(-1)", x.rank(-1), -1);
        due("rank(MIN)", x.rank(Integer.MIN_VALUE), -1);
        due("exchange", x.exchange(set("23"), set("24"), 3), 4);
        due("exchange of a label of both", x.exchange(set("23"), set("24"), 2), -1);
        due("exchange of a label of the other", x.exchange(set("23"), set("24"), 4), -1);
        due("exchange of one and itself", x.exchange(set("23"), set("23"), 3), -1);
        due("exchange of no BASIS", x.exchange(set("13"), set("24"), 3), -1);
        due("exchange for no BASIS", x.exchange(set("23"), set("34"), 2), -1);
        due("exchange of no label", x.exchange(set("23"), set("24"), 0), -1);
        due("exchange of no label", x.exchange(set("23"), set("24"), 5), -1);
        due("exchange of no labels", x.exchange(-1, 1 << 20, 33), -1);
        int[] parts = {-1, 1, 2, 3, 3, -1};
        for (int i = 0; i <= 5; i++) {
            due("part(" + i + ")", x.part(i), parts[i]);
        }
        GrassCells top = Check.told(TOP);
        due("exchange takes the least", top.exchange(set("12"), set("34"), 1), 3);
        due("exchange takes the least", top.exchange(set("34"), set("12"), 4), 1);
        GrassCells twos = Check.told("perm 2 5 4 7");
        due("exchange where the least can't", twos.exchange(set("13"), set("24"), 3), 4);
        due("part of two twos", twos.part(4), 3);
        due("part of one", top.part(4), 1);
        GrassCells none = new GrassCells();
        due("rank without a CELL", none.rank(0), -1);
        due("exchange without a CELL", none.exchange(0, 0, 1), -1);
        due("part without a CELL", none.part(1), -1);
    }

    private static void promise13() {
        GrassCells x = Check.told(TOP);
        due("ways(12)", x.ways(set("12")), 1);
        due("ways(13)", x.ways(set("13")), 1);
        due("ways(23)", x.ways(set("23")), 1);
        due("ways(14)", x.ways(set("14")), 1);
        due("ways(24)", x.ways(set("24")), 2);
        due("ways(34)", x.ways(set("34")), 1);
        due("ways of three labels", x.ways(set("123")), -1);
        due("ways of label 5", x.ways(set("15")), -1);
        due("ways(-1)", x.ways(-1), -1);
        GrassCells loose = Check.told(LOOSE);
        due("ways of no BASIS", loose.ways(set("34")), 0);
        due("ways of K 0", Check.told("perm 1 2").ways(0), 1);
        due("ways of K 0", Check.told("perm 1 2").ways(1), -1);
        GrassCells row = Check.told("perm 2 3 4 5");
        due("ways of one row", row.ways(set("4")), 1);
        GrassCells three = Check.told("perm 4 5 6 7 8 9");
        due("ways of 1 to 6 past 2 and 3", three.ways(set("236")), 6);
        due("ways of one", three.ways(set("456")), 1);
        due("ways of two", three.ways(set("246")), 5);
        due("ways without a CELL", new GrassCells().ways(0), -1);
    }

    private static void promise14() {
        GrassCells x = Check.told(TOP);
        due("cross(13, 24)", x.cross(set("13"), set("24")), 1);
        due("cross(24, 13)", x.cross(set("24"), set("13")), 1);
        due("cross(12, 34)", x.cross(set("12"), set("34")), 0);
        due("cross(14, 23)", x.cross(set("14"), set("23")), 0);
        due("cross(12, 24)", x.cross(set("12"), set("24")), 0);
        due("cross with itself", x.cross(set("13"), set("13")), 0);
        due("cross of one label", x.cross(set("1"), set("13")), -1);
        due("cross with label 5", x.cross(set("13"), set("25")), -1);
        due("cross(-1, 3)", x.cross(-1, 3), -1);
        due("cross of no BASES", Check.told("perm 7 8 9 4 5 6").cross(set("135"), set("246")), 1);
        due("cross without a CELL", new GrassCells().cross(0, 0), -1);
    }

    private static void promises15to17() {
        GrassCells x = Check.told(TOP);
        int[] all = {5, 3, 5, 6, 9, 12, -2};
        for (int k = -1; k < 6; k++) {
            due("cluster(" + k + ")", x.cluster(k), all[k + 1]);
        }
        due("cluster(-2)", x.cluster(-2), -1);
        due("square(-1)", x.square(-1), 1);
        due("square(0)", x.square(0), set("13"));
        due("square(1)", x.square(1), -2);
        due("square(-2)", x.square(-2), -1);
        due("move of one of the NECKLACE", x.move(set("12")), -2);
        due("move of one that is not in it", x.move(set("24")), -2);
        due("move(MIN)", x.move(Integer.MIN_VALUE), -2);
        due("no ACT so far", x.count(7), 1);
        due("move(13)", x.move(set("13")), set("24"));
        due("an ACT", x.count(7), 2);
        int[] then = {5, 3, 6, 9, 10, 12, -2};
        for (int k = -1; k < 6; k++) {
            due("cluster(" + k + ") then", x.cluster(k), then[k + 1]);
        }
        due("square(0) then", x.square(0), set("24"));
        due("move(24)", x.move(set("24")), set("13"));
        GrassCells empty = Check.told("perm 1 2 3");
        due("cluster(-1) of K 0", empty.cluster(-1), 1);
        due("cluster(0) of K 0", empty.cluster(0), 0);
        due("square(-1) of K 0", empty.square(-1), 0);
        due("square(0) of K 0", empty.square(0), -2);
        due("move of K 0", empty.move(0), -2);
        GrassCells none = new GrassCells();
        due("cluster without a CELL", none.cluster(-1), -1);
        due("square without a CELL", none.square(-1), -1);
        due("move without a CELL", none.move(0), -1);
        laidAnew();
    }

    private static void laidAnew() {
        GrassCells x = Check.told(TOP);
        x.move(set("13"));
        x.turn();
        due("CLUSTER of a turned CELL", x.cluster(1), set("13"));
        x.move(set("13"));
        Check.tell(x, TOP);
        due("CLUSTER of a CELL told again", x.cluster(1), set("13"));
        GrassCells five = Check.told("perm 3 4 5 6 7");
        due("SQUARES of five labels", five.square(-1), 2);
        due("square(0) of five labels", five.square(0), set("13"));
        due("square(1) of five labels", five.square(1), set("14"));
        due("move(13) of five labels", five.move(set("13")), set("24"));
        due("square(1) then", five.square(1), set("24"));
        due("move(14) then", five.move(set("14")), set("25"));
    }

    private static void promises18and19() {
        GrassCells x = Check.told(TOP);
        int[][] lower = {{4, 3, 5, 6}, {3, 5, 4, 6}, {3, 4, 6, 5}, {2, 4, 5, 7}};
        due("LOWER ones", x.lower(0, 0), 4);
        due("LOWER ones, whatever k is", x.lower(-7, 0), 4);
        due("LOWER ones, whatever k is", x.lower(99, 0), 4);
        for (int k = 0; k < 4; k++) {
            for (int i = 1; i <= 4; i++) {
                due("lower(" + k + ", " + i + ")", x.lower(k, i), lower[k][i - 1]);
            }
        }
        due("lower(4, 1)", x.lower(4, 1), -2);
        due("lower(-1, 1)", x.lower(-1, 1), -1);
        due("lower(0, 5)", x.lower(0, 5), -1);
        due("lower(9, 5)", x.lower(9, 5), -1);
        due("lower(0, -1)", x.lower(0, -1), -1);
        due("UPPER ones", x.upper(0, 0), 0);
        due("upper(0, 1)", x.upper(0, 1), -2);
        GrassCells point = Check.told("perm 1 4");
        due("LOWER ones of a point", point.lower(0, 0), 0);
        due("UPPER ones of a point", point.upper(3, 0), 1);
        due("upper(0, 1)", point.upper(0, 1), 2);
        due("upper(0, 2)", point.upper(0, 2), 3);
        due("upper(1, 2)", point.upper(1, 2), -2);
        due("upper(-1, 2)", point.upper(-1, 2), -1);
        due("upper(0, 3)", point.upper(0, 3), -1);
        due("lower without a CELL", new GrassCells().lower(0, 0), -1);
        due("upper without a CELL", new GrassCells().upper(0, 0), -1);
    }

    private static void promises20and21() {
        GrassCells x = Check.told(TOP);
        due("down(4)", x.down(4), -2);
        due("down(-1)", x.down(-1), -1);
        due("up(0) of the greatest", x.up(0), -2);
        due("up(-1)", x.up(-1), -1);
        due("no ACT so far", x.count(7), 1);
        due("down(1)", x.down(1), 3);
        due("an ACT", x.count(7), 2);
        due("F then", x.f(2), 5);
        due("UPPER ones then", x.upper(0, 0), 1);
        due("up(0)", x.up(0), 4);
        Check.due("F again", Check.perm(x).equals(TOP), true);
        due("ACTS", x.count(7), 3);
        for (int dim = 3; dim >= 0; dim--) {
            due("down(0)", x.down(0), dim);
        }
        due("down(0) of a point", x.down(0), -2);
        due("down without a CELL", new GrassCells().down(0), -1);
        due("up without a CELL", new GrassCells().up(0), -1);
    }

    private static void promises22to24() {
        GrassCells x = Check.told(LOOSE);
        Check.due("turn", x.turn(), true);
        due("the LOOP then", x.count(4), set("2"));
        due("the COLOOP then", x.count(5), set("3"));
        due("basis(0) then", x.basis(0), set("13"));
        due("basis(1) then", x.basis(1), set("34"));
        x = Check.told(LOOSE);
        Check.due("mirror", x.mirror(), true);
        due("the LOOP then", x.count(4), set("4"));
        due("the COLOOP then", x.count(5), set("3"));
        due("basis(0) then", x.basis(0), set("13"));
        due("basis(1) then", x.basis(1), set("23"));
        x = Check.told("perm 1 7 4 8 10");
        Check.due("complement", x.complement(), true);
        due("K then", x.count(1), 2);
        due("the LOOPS then", x.count(4), set("25"));
        due("the COLOOP then", x.count(5), set("1"));
        Check.due("mirror of another order", mirrored("perm 2 3 6 5 9").equals("perm 2 6 4 5 8"), true);
        GrassCells none = new GrassCells();
        Check.due("turn without a CELL", none.turn(), false);
        Check.due("mirror without a CELL", none.mirror(), false);
        Check.due("complement without a CELL", none.complement(), false);
        due("no ACTS", none.count(7), 0);
    }

    private static String mirrored(String text) {
        GrassCells x = Check.told(text);
        GrassCells y = Check.told(text);
        x.mirror();
        int n = y.count(0);
        for (int k = 0; k < y.bases(); k++) {
            int image = 0;
            for (int i = 1; i <= n; i++) {
                image |= (y.basis(k) >> (i - 1) & 1) << (n - i);
            }
            Check.due("a mirrored BASIS is one", x.ways(image) > 0, true);
        }
        due("as many BASES", x.bases(), y.bases());
        return Check.perm(x);
    }

    private static void promise25() {
        GrassCells x = new GrassCells();
        due("undo of nothing", x.undo(), -1);
        Check.tell(x, TOP);
        x.move(set("13"));
        x.down(0);
        Check.lay(x, "perm");
        x.keep(2);
        due("undo of DOWN", x.undo(), 2);
        due("DIM again", x.count(2), 4);
        due("its CLUSTER, too", x.cluster(3), set("24"));
        due("the TAPE is left", x.count(9), 4);
        due("the SHELVES are left", x.count(8), 4);
        due("undo of the MOVE", x.undo(), 1);
        due("the CLUSTER before it", x.cluster(1), set("13"));
        due("undo of what was told", x.undo(), 0);
        due("no CELL again", x.count(0), -1);
        due("no CLUSTER again", x.cluster(-1), -1);
        due("no more", x.undo(), -1);
        Check.tell(x, "perm 1 4 5 6 8");
        Check.tell(x, LOOSE);
        for (int turns = 0; turns < 20; turns++) {
            x.turn();
        }
        due("ACTS that can be UNDONE", x.count(7), 20);
        for (int left = 19; left >= 0; left--) {
            due("undo", x.undo(), left);
        }
        due("undo of the 21st", x.undo(), -1);
        Check.due("F then", Check.perm(x).equals(LOOSE), true);
    }

    private static void promise26() {
        GrassCells x = new GrassCells();
        int[] dims = {6, 12, 10, 4, 1, 0, 0};
        for (int dim = 0; dim < dims.length; dim++) {
            due("howMany(4, 2, " + dim + ")", x.howMany(4, 2, dim), dims[dim]);
        }
        due("howMany(2, 1, 0)", x.howMany(2, 1, 0), 2);
        due("howMany(2, 1, 1)", x.howMany(2, 1, 1), 1);
        due("howMany(2, 0, 0)", x.howMany(2, 0, 0), 1);
        due("howMany(7, 7, 0)", x.howMany(7, 7, 0), 1);
        due("howMany(7, 7, 1)", x.howMany(7, 7, 1), 0);
        due("howMany(7, 3, 12)", x.howMany(7, 3, 12), 1);
        due("howMany(7, 3, 11)", x.howMany(7, 3, 11), 7);
        due("howMany(7, 4, 0)", x.howMany(7, 4, 0), 35);
        due("howMany(7, 3, 13)", x.howMany(7, 3, 13), 0);
        due("howMany(7, 3, MAX)", x.howMany(7, 3, Integer.MAX_VALUE), 0);
        due("howMany(1, 0, 0)", x.howMany(1, 0, 0), -1);
        due("howMany(8, 4, 3)", x.howMany(8, 4, 3), -1);
        due("howMany(5, 6, 0)", x.howMany(5, 6, 0), -1);
        due("howMany(5, -1, 0)", x.howMany(5, -1, 0), -1);
        due("howMany(5, 2, -1)", x.howMany(5, 2, -1), -1);
        due("howMany(MIN, MIN, MIN)", x.howMany(Integer.MIN_VALUE, Integer.MIN_VALUE, Integer.MIN_VALUE), -1);
        int all = 0;
        for (int k = 0; k <= 7; k++) {
            for (int dim = 0; dim <= 12; dim++) {
                all += x.howMany(7, k, dim);
            }
        }
        due("CELLS of 7", all, 13700);
    }

    private static void promises27and28() {
        GrassCells x = new GrassCells();
        due("keep without a CELL", x.keep(0), -1);
        due("has without a CELL", x.has(0), -1);
        Check.tell(x, TOP);
        due("nothing KEPT", x.has(3), -2);
        due("keep(4)", x.keep(4), -1);
        due("keep(-1)", x.keep(-1), -1);
        due("has(4)", x.has(4), -1);
        due("has(-1)", x.has(-1), -1);
        due("keep(3)", x.keep(3), 4);
        due("has itself", x.has(3), 1);
        x.down(0);
        due("keep(0)", x.keep(0), 3);
        due("a LOWER one has not", x.has(3), 0);
        x.undo();
        due("has a LOWER one", x.has(0), 1);
        x.down(1);
        due("another LOWER one has not", x.has(0), 0);
        Check.tell(x, "perm 2 3 4 5");
        due("another K", x.has(3), 0);
        Check.tell(x, "perm 3 4 5 6 7");
        due("another N", x.has(3), 0);
        due("keep(3) anew", x.keep(3), 6);
        due("has it then", x.has(3), 1);
        due("the other SHELF", x.has(0), 0);
        x.undo();
        x.undo();
        x.undo();
        x.undo();
        due("SHELVES are not UNDONE", x.count(8), 9);
        due("has without a CELL", x.has(3), -1);
    }

    private static void promise29() {
        GrassCells x = new GrassCells();
        int[] none = {-1, -1, -1, -1, -1, -1, -1, 0, 0, 0, -1};
        for (int what = 0; what <= 10; what++) {
            due("count(" + what + ") of a new object", x.count(what), none[what]);
        }
        Check.tell(x, "perm 1 3 5 4 8 12");
        x.keep(1);
        x.keep(3);
        x.feed(0, 0, 0, 0, 0);
        int[] all = {6, 2, 2, 6, set("14"), set("6"), 4, 1, 10, 20, -1};
        for (int what = 0; what <= 10; what++) {
            due("count(" + what + ")", x.count(what), all[what]);
        }
        due("count(-1)", x.count(-1), -1);
        due("count(MIN)", x.count(Integer.MIN_VALUE), -1);
        due("count(MAX)", x.count(Integer.MAX_VALUE), -1);
    }
}
