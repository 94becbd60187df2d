/** Promise 4 and what "Terms" says of texts: a test for each sentence, on both sides of its edge. */
public final class TextEdgesTest {
    private static final String TOP = "perm 3 4 5 6";

    private TextEdgesTest() {
    }

    public static void main(String[] args) {
        sizes();
        lengths();
        blanks();
        words();
        tooSoon();
        numbers();
        filling();
        signs();
        sets();
        firstKind();
        secondKind();
        thirdKindOfNumbers();
        thirdKindOfBoxes();
        thirdKindOfSets();
        behind();
        answers();
        Check.close("TextEdgesTest");
    }

    private static void well(String text, String perm) {
        GrassCells x = new GrassCells();
        Check.due("cell of '" + text + "'", Check.tell(x, text), perm.split(" ").length - 1);
        String found = Check.perm(x);
        Check.due("F of '" + text + "' is " + found + " (due is " + perm + ")", found.equals(perm), true);
    }

    private static void fault(String text, int place, int kind) {
        Check.due("cell of '" + text + "'", Check.tell(new GrassCells(), text), -2 - (8 * place + kind));
    }

    private static void sizes() {
        Check.holds("Terms, CELL: N is 2 to 8 (NUMBERS); a ninth NUMBER: 1, where it begins", () -> {
            fault("perm 1", 6, 1);
            well("perm 1 2", "perm 1 2");
            well("perm 9 10 11 12 13 14 15 16", "perm 9 10 11 12 13 14 15 16");
            fault("perm 1 2 3 4 5 6 7 8 9", 21, 1);
            fault("perm 1 2 3 4 5 6 7 8 123", 21, 1);
        });
        Check.holds("Terms, CELL: N is 2 to 8 (PATH); a ninth letter of a PATH: 1, at it", () -> {
            fault("fill d", 6, 1);
            fault("fill l", 6, 1);
            fault("fill d/", 6, 1);
            well("fill ll", "perm 1 2");
            well("fill llllllll", "perm 1 2 3 4 5 6 7 8");
            fault("fill lllllllll", 13, 1);
            fault("fill lllllllld/", 13, 1);
            fault("fill llllllllll", 13, 1);
        });
        Check.holds("Terms, CELL: N is 2 to 8 (SETS); a ninth SET: 1, where it begins", () -> {
            fault("neck 1", 6, 1);
            well("neck 1 1", "perm 3 2");
            well("neck 8 8 8 8 8 8 8 8", "perm 1 2 3 4 5 6 7 16");
            fault("neck 8 8 8 8 8 8 8 8 8", 21, 1);
            fault("neck 12 12 12 12 12 12 12 12 12", 29, 1);
        });
        Check.holds("Terms, CELL: K is 0 to N", () -> {
            Check.due("K of no NUMBER above N", Check.told("perm 1 2 3").count(1), 0);
            Check.due("K of all NUMBERS above N", Check.told("perm 4 5 6").count(1), 3);
            Check.due("K of a PATH without d", Check.told("fill lll").count(1), 0);
            Check.due("K of a PATH without l", Check.told("fill ddd///").count(1), 3);
            Check.due("K of SETS of one label", Check.told("neck 1 2 3").count(1), 1);
            Check.due("K of SETS of N labels", Check.told("neck 123 123 123").count(1), 3);
            Check.due("K of SETS of 8 labels", Check.told("neck" + " 12345678".repeat(8)).count(1), 8);
        });
    }

    private static void lengths() {
        Check.holds("Terms, TEXT: of at most 160 bytes", () -> {
            String last = "perm 9 10 11 12 13 14 15 16";
            well(" ".repeat(160 - last.length()) + last, last);
            well("perm" + " ".repeat(153) + "1 4", "perm 1 4");
            fault(" ".repeat(160), 160, 1);
            fault("perm" + " ".repeat(155) + "x", 159, 1);
            GrassCells x = new GrassCells();
            for (int fed = 0; fed < 160; fed += 20) {
                x.feed(0, 0, 0, 0, 0);
            }
            Check.due("a byte behind 160", x.feed(0, 0, 0, 0, 0), -1);
        });
        Check.holds("Terms, FAULT: place 0 is the first byte", () -> {
            fault("x", 0, 1);
            fault("xx", 0, 1);
            fault(" x", 1, 1);
        });
    }

    private static void blanks() {
        Check.holds("Terms, TEXT: blanks stand between as one likes", () -> {
            well("  perm 1 2", "perm 1 2");
            well("perm   1   2", "perm 1 2");
            well("perm1 2", "perm 1 2");
            well("perm 1 2  ", "perm 1 2");
            well("fill   dl  /  +  ", "perm 2 3");
            well("fill dl/+", "perm 2 3");
            well("fill dl /+", "perm 2 3");
            well("fill dl/ +", "perm 2 3");
            well("neck12 12", "perm 3 4");
            well("  neck   1   2  ", "perm 2 3");
        });
        Check.holds("Terms, TEXT: a blank is 32, no other byte", () -> {
            for (char other : "\t\n\r\0\u001f!_\u00a0".toCharArray()) {
                fault("perm 1" + other + "2", 6, 1);
                fault(other + "perm 1 2", 0, 1);
                fault("perm 1 2" + other, 8, 1);
                fault("fill dl" + other + "/+", 7, 1);
                fault("neck 1" + other + "2", 6, 1);
            }
        });
        Check.holds("Terms, TEXT: no blank within a NUMBER", () -> {
            well("perm 1 2", "perm 1 2");
            fault("perm 12", 7, 1);
            well("perm 1 4", "perm 1 4");
            fault("perm 1 1 0", 9, 2);
            fault("perm 12 3", 5, 3);
        });
        Check.holds("Terms, TEXT: no blank within a PATH", () -> {
            fault("fill d l/+", 6, 1);
            fault("fill dl l/++", 8, 1);
        });
        Check.holds("Terms, TEXT: no blank within a ROW", () -> {
            well("fill dll/ ++ ", "perm 2 3 4");
            fault("fill dll/+ +", 10, 1);
            fault("fill dlll/++ +", 12, 1);
        });
        Check.holds("Terms, TEXT: no blank within a SET", () -> {
            well("neck 12 12", "perm 3 4");
            fault("neck 12 1 2", 9, 1);
            fault("neck 123 1 23", 10, 1);
            fault("neck 1 2 12", 10, 1);
        });
    }

    private static void words() {
        Check.holds("Terms, TEXT: a WORD goes on as far as small letters do", () -> {
            fault("perma 1 2", 0, 1);
            fault("permz 1 2", 0, 1);
            fault("permperm 1 2", 0, 1);
            fault("filldl/+", 0, 1);
            fault("necks 1 2", 0, 1);
            fault("perm` 1 2", 4, 1);
            fault("perm{ 1 2", 4, 1);
            fault("permM 1 2", 4, 1);
            fault("fill/dl", 4, 1);
            well("perm1 2", "perm 1 2");
        });
        Check.holds("Terms, FAULT 1: a WORD that can't stand there, at its place", () -> {
            fault("per 1 2", 0, 1);
            fault("erm 1 2", 0, 1);
            fault("per", 0, 1);
            fault("  fil ll", 2, 1);
            fault("prem 1 2", 0, 1);
            fault("nock 1 2", 0, 1);
            fault("perm perm 1 2", 5, 1);
            fault("perm 1 fill", 7, 1);
            fault("neck 1 2 neck", 9, 1);
        });
        Check.holds("Terms, FAULT 1: the first byte that can't stand there, where a WORD is due", () -> {
            fault("Perm 1 2", 0, 1);
            fault("PERM 1 2", 0, 1);
            fault("1 2", 0, 1);
            fault(" /", 1, 1);
            fault("\u00ffperm 1 2", 0, 1);
            fault("\u00f0erm 1 2", 0, 1);
        });
    }

    private static void tooSoon() {
        Check.holds("Terms, FAULT 1: the text ends too soon, at the place behind its last byte (ahead of "
                + "the WORD)", () -> {
            fault("", 0, 1);
            fault(" ", 1, 1);
            fault("    ", 4, 1);
        });
        Check.holds("Terms, FAULT 1: the text ends too soon, at the place behind its last byte (perm)", () -> {
            fault("perm", 4, 1);
            fault("perm ", 5, 1);
            fault("perm 1", 6, 1);
            fault("perm 12", 7, 1);
            fault("perm 1  ", 8, 1);
        });
        Check.holds("Terms, FAULT 1: the text ends too soon, at the place behind its last byte (fill)", () -> {
            fault("fill", 4, 1);
            fault("fill ", 5, 1);
            fault("fill d", 6, 1);
            fault("fill dl", 7, 1);
            fault("fill dl  ", 9, 1);
            fault("fill dl/", 8, 1);
            fault("fill dl/ ", 9, 1);
            fault("fill dll/+", 10, 1);
            fault("fill ddl/+", 10, 1);
            fault("fill ddl/+/", 11, 1);
            fault("fill dd/", 8, 1);
        });
        Check.holds("Terms, FAULT 1: the text ends too soon, at the place behind its last byte (neck)", () -> {
            fault("neck", 4, 1);
            fault("neck  ", 6, 1);
            fault("neck 1", 6, 1);
            fault("neck 12  ", 9, 1);
            fault("neck 12 1", 9, 1);
        });
    }

    private static void numbers() {
        Check.holds("Terms, perm: NUMBERS of 1 or 2 digits; of three digits: 1, where it begins", () -> {
            well("perm 2 3", "perm 2 3");
            well("perm 02 3", "perm 2 3");
            well("perm 02 03", "perm 2 3");
            fault("perm 002 3", 5, 1);
            fault("perm 2 003", 7, 1);
            fault("perm 123 4", 5, 1);
            fault("perm 1234567890", 5, 1);
            fault("perm 2 123x", 7, 1);
            fault("perm 2 12x", 9, 1);
        });
        Check.holds("Terms, perm: a byte that is no digit can't stand there", () -> {
            fault("perm x", 5, 1);
            fault("perm 1 -2", 7, 1);
            fault("perm 1,2", 6, 1);
            fault("perm 1 2/", 8, 1);
            fault("perm 1 2:", 8, 1);
        });
        Check.holds("Terms, perm: its F; F(i) is the i-th", () -> {
            well("perm 2 4 6 5 8", "perm 2 4 6 5 8");
            GrassCells x = Check.told("perm 2 4 6 5 8");
            Check.due("f(1)", x.f(1), 2);
            Check.due("f(5)", x.f(5), 8);
        });
    }

    private static void filling() {
        Check.holds("Terms, fill: PATH of letters d and l", () -> {
            well("fill dl/+", "perm 2 3");
            well("fill ld/", "perm 1 4");
            fault("fill dx", 6, 1);
            fault("fill xl", 5, 1);
            fault("fill dlk/", 7, 1);
            fault("fill dle/", 7, 1);
            fault("fill DL/+", 5, 1);
            fault("fill 1", 5, 1);
            fault("fill / +", 5, 1);
        });
        Check.holds("Terms, fill: the labels at which d stands are the FIRST SET (K of them)", () -> {
            GrassCells x = Check.told("fill ldlldd/00//");
            Check.due("the FIRST SET", x.neck(1), Check.set("256"));
            Check.due("K", x.count(1), 3);
            Check.due("the FIRST SET of d at each end", Check.told("fill dld/0/").neck(1), Check.set("13"));
        });
        Check.holds("Terms, fill: a / and a ROW for each of the FIRST SET, no more and no fewer", () -> {
            well("fill ll", "perm 1 2");
            fault("fill ll/", 7, 1);
            fault("fill dl", 7, 1);
            fault("fill dl+", 7, 1);
            fault("fill dl|+", 7, 1);
            well("fill dl/+", "perm 2 3");
            fault("fill dl/+/", 9, 1);
            fault("fill dl/+ /+", 10, 1);
            well("fill dd//", "perm 3 4");
            fault("fill dd/", 8, 1);
            fault("fill dd///", 9, 1);
            well("fill dddddddd////////", "perm 9 10 11 12 13 14 15 16");
        });
        Check.holds("Terms, fill: the ROWS from the least of the FIRST SET on", () -> {
            GrassCells x = Check.told("fill ddll/+0/0+");
            Check.due("box(1, 4)", x.box(1, 4), 1);
            Check.due("box(1, 3)", x.box(1, 3), 0);
            Check.due("box(2, 4)", x.box(2, 4), 0);
            Check.due("box(2, 3)", x.box(2, 3), 1);
        });
    }

    private static void signs() {
        Check.holds("Terms, fill: a ROW has as many signs as there are labels with l above it", () -> {
            well("fill ldldl/00/0", "perm 1 7 3 9 5");
            fault("fill ldldl/0/0", 12, 1);
            fault("fill ldldl/00/", 14, 1);
            well("fill lld/", "perm 1 2 6");
            well("fill dllllllll".substring(0, 13) + "/0000000", "perm 9 2 3 4 5 6 7 8");
            fault("fill dlllllll/000000", 20, 1);
        });
        Check.holds("Terms, FAULT 1: another sign of a ROW, at it", () -> {
            fault("fill dl/++", 9, 1);
            fault("fill dl/+0", 9, 1);
            fault("fill ld/+", 8, 1);
            fault("fill dl/+ +", 10, 1);
            fault("fill ddl/+0/+", 10, 1);
            fault("fill dlllllll/00000000", 21, 1);
        });
        Check.holds("Terms, fill: signs + and 0", () -> {
            well("fill dl/+", "perm 2 3");
            well("fill dl/0", "perm 3 2");
            for (char other : "1-,*/.oOd\0".toCharArray()) {
                fault("fill dl/" + other, 8, 1);
            }
        });
        Check.holds("Terms, fill: the sign of the greatest label first", () -> {
            GrassCells x = Check.told("fill dll/+0");
            Check.due("box(1, 3)", x.box(1, 3), 1);
            Check.due("box(1, 2)", x.box(1, 2), 0);
        });
    }

    private static void sets() {
        Check.holds("Terms, neck: digits 1 to 8", () -> {
            fault("neck 0 1", 5, 1);
            fault("neck 01 01", 5, 1);
            well("neck 1 1", "perm 3 2");
            well("neck 18 18 18 18 18 18 18 18", "perm 9 2 3 4 5 6 7 16");
            fault("neck 19 19", 6, 1);
            fault("neck 9 9", 5, 1);
            fault("neck x", 5, 1);
            fault("neck 1 :", 7, 1);
        });
        Check.holds("Terms, neck: each digit above the one ahead of it", () -> {
            well("neck 12 12", "perm 3 4");
            fault("neck 11 12", 6, 1);
            fault("neck 21 12", 6, 1);
            fault("neck 12 22", 9, 1);
            fault("neck 12 32", 9, 1);
            fault("neck 132 132 132", 7, 1);
        });
        Check.holds("Terms, neck: each SET of K digits; K by the first SET", () -> {
            well("neck 1 2", "perm 2 3");
            fault("neck 1 12", 8, 1);
            well("neck 12 12", "perm 3 4");
            fault("neck 12 1", 9, 1);
            fault("neck 12 2 12", 9, 1);
            fault("neck 12 23 3 14", 12, 1);
        });
        Check.holds("Terms, FAULT 1: a digit more of a SET, at it", () -> {
            fault("neck 12 123", 10, 1);
            fault("neck 12 121", 10, 1);
            fault("neck 12 129", 10, 1);
            fault("neck 1 11", 8, 1);
            fault("neck 123456789 1", 13, 1);
        });
        Check.holds("Terms, neck: K is 1 at least", () -> {
            fault("neck", 4, 1);
            fault("neck / 1", 5, 1);
            well("neck 2 2", "perm 1 4");
        });
    }

    private static void firstKind() {
        Check.holds("Terms, FAULT: 1 ahead of 2 and 3, wherever it stands", () -> {
            fault("perm 0 2 x", 9, 1);
            fault("perm 17 123", 8, 1);
            fault("perm 4 2 x", 9, 1);
            fault("perm 0", 6, 1);
            fault("fill ddll/++/+0 x", 16, 1);
            fault("fill ddll/++/+", 14, 1);
            fault("neck 13 23 x", 11, 1);
            fault("neck 18", 7, 1);
            fault("neck 2 1 x", 9, 1);
            fault("neck 2 3 0", 9, 1);
        });
        Check.holds("Terms, FAULT 1: the first one of several", () -> {
            fault("perm 123 x 456", 5, 1);
            fault("fill dl/x y", 8, 1);
            fault("neck 1 x y", 7, 1);
        });
    }

    private static void secondKind() {
        Check.holds("Terms, FAULT 2: a NUMBER that is 0", () -> {
            well("perm 1 2", "perm 1 2");
            fault("perm 0 2", 5, 2);
            fault("perm 00 2", 5, 2);
            fault("perm 1 0", 7, 2);
        });
        Check.holds("Terms, FAULT 2: a NUMBER above 16", () -> {
            well("perm 1 2 3 4 5 6 7 16", "perm 1 2 3 4 5 6 7 16");
            fault("perm 1 2 3 4 5 6 7 17", 19, 2);
            fault("perm 16 2", 5, 3);
            fault("perm 17 2", 5, 2);
            fault("perm 99 2", 5, 2);
        });
        Check.holds("Terms, FAULT 2: the first such NUMBER", () -> {
            fault("perm 1 17 0", 7, 2);
            fault("perm 1 0 17", 7, 2);
            fault("perm 0 0", 5, 2);
        });
        Check.holds("Terms, FAULT 2: the first digit of a SET above N, at it", () -> {
            well("neck 12 12", "perm 3 4");
            fault("neck 13 13", 6, 2);
            fault("neck 34 34", 5, 2);
            fault("neck 123 123", 7, 2);
            fault("neck 12 18", 9, 2);
            fault("neck 12 13", 9, 2);
            well("neck 12 23 23", "perm 3 5 4");
            fault("neck 12 24 23", 9, 2);
            fault("neck 1234567 1234567 1234567 1234567 1234567 1234567 1234568", 59, 2);
        });
        Check.holds("Terms, FAULT: 2 ahead of 3, wherever it stands", () -> {
            fault("perm 4 0", 7, 2);
            fault("perm 2 1 17", 9, 2);
            fault("neck 2 1 4", 9, 2);
            fault("neck 12 23 12 35", 15, 2);
        });
    }

    private static void thirdKindOfNumbers() {
        Check.holds("Terms, FAULT 3: a NUMBER F(i) below i, where it begins", () -> {
            well("perm 3 2", "perm 3 2");
            fault("perm 3 1 2", 7, 3);
            fault("perm 2 1", 7, 3);
            well("perm 2 3 4 5 6 7 9 8", "perm 2 3 4 5 6 7 9 8");
            fault("perm 1 2 3 4 5 6 8 7", 19, 3);
        });
        Check.holds("Terms, FAULT 3: a NUMBER F(i) above i + N, where it begins", () -> {
            well("perm 4 2 3", "perm 4 2 3");
            fault("perm 5 3 4", 5, 3);
            well("perm 1 2 6", "perm 1 2 6");
            fault("perm 2 3 7", 9, 3);
            well("perm 3 4", "perm 3 4");
            fault("perm 2 5", 7, 3);
        });
        Check.holds("Terms, FAULT 3: a NUMBER like one ahead of it modulo N, where it begins", () -> {
            fault("perm 2 2 3", 7, 3);
            fault("perm 2 5 3", 7, 3);
            fault("perm 4 2 4", 9, 3);
            fault("perm 1 3 6", 9, 3);
            fault("perm 3 4 6", 9, 3);
            well("perm 1 5 6", "perm 1 5 6");
            fault("perm 9 2 3 4 5 6 7 9", 19, 3);
        });
        Check.holds("Terms, FAULT 3: the first such NUMBER, where it begins", () -> {
            fault("perm 5 1 9", 5, 3);
            fault("perm 2 1 1", 7, 3);
            fault("perm   02   01", 12, 3);
        });
    }

    private static void thirdKindOfBoxes() {
        Check.holds("Terms, LE: a BOX with 0 and + both above and at the left", () -> {
            fault("fill ddll/++/+0", 14, 3);
            well("fill ddll/++/++", "perm 3 4 5 6");
        });
        Check.holds("Terms, LE: a BOX with 0 and + above it alone can stand", () -> {
            well("fill ddll/++/00", "perm 3 6 4 5");
            well("fill ddll/++/0+", "perm 3 4 6 5");
        });
        Check.holds("Terms, LE: a BOX with 0 and + at its left alone can stand", () -> {
            well("fill ddll/00/+0", "perm 5 4 3 6");
            well("fill ddll/+0/+0", "perm 4 5 3 6");
            well("fill dll/+0", "perm 3 2 4");
        });
        Check.holds("Terms, LE: the + of BOX (h, j) for any h below i", () -> {
            fault("fill dddll/++/00/+0", 18, 3);
            fault("fill dddll/00/++/+0", 18, 3);
            fault("fill dldll/+++/+0", 16, 3);
        });
        Check.holds("Terms, LE: the + of BOX (i, m) for any m above j", () -> {
            fault("fill ddlll/+0+/+00", 17, 3);
            fault("fill ddlll/0++/0+0", 17, 3);
            fault("fill ddldl/++/+0/+", 15, 3);
        });
        Check.holds("Terms, FAULT 3: the first BOX by which it is not LE, at its sign", () -> {
            fault("fill ddll  /  ++  /  +0  ", 22, 3);
            fault("fill dddlll/+++/+00/+00", 17, 3);
            fault("fill dddll/0+/+0/+0", 15, 3);
            fault("fill ddldl/0+/+0/+", 15, 3);
        });
    }

    private static void thirdKindOfSets() {
        Check.holds("Terms, FAULT 3: the first SET from the second on that can't stand behind the one "
                + "ahead of it, where it begins", () -> {
            fault("neck 2 1", 7, 3);
            fault("neck 12 13 12 12", 8, 3);
            fault("neck 12 23 14 14", 11, 3);
            fault("neck 1 3 2 2", 9, 3);
            fault("neck 1 2 3 4 5 6 6 8", 19, 3);
            fault("neck   2   1", 11, 3);
        });
        Check.holds("Terms, FAULT 3: the last SET, where it begins, if the first can't stand behind it", () -> {
            well("neck 1 2 3", "perm 2 3 4");
            fault("neck 1 2 2", 9, 3);
            fault("neck 1 2 3 3", 11, 3);
            well("neck 12 23 34 14", "perm 3 4 5 6");
            fault("neck 12 23 34 34", 14, 3);
            fault("neck  1  2  2  ", 12, 3);
        });
    }

    private static void behind() {
        Check.holds("Terms, SET behind the i-th: the same, if that has not i", () -> {
            well("neck 2 2", "perm 1 4");
            fault("neck 2 1", 7, 3);
            well("neck 13 13 13", "perm 4 2 6");
            fault("neck 13 13 12", 11, 3);
            well("neck 1 1 1", "perm 4 2 3");
        });
        Check.holds("Terms, SET behind the i-th: if that has i, without i and with one label more", () -> {
            well("neck 1 2", "perm 2 3");
            well("neck 12 23 13", "perm 3 4 5");
            well("neck 12 24 34 14", "perm 4 3 5 6");
            fault("neck 12 13 13", 8, 3);
            fault("neck 12 34 34 14", 8, 3);
        });
        Check.holds("Terms, SET behind the i-th: .. with one label more (i, perhaps)", () -> {
            well("neck 1 1", "perm 3 2");
            well("neck 12 12 12", "perm 4 5 3");
            well("neck 13 23 13", "perm 2 4 6");
        });
    }

    private static void answers() {
        Check.holds("Promise 4, cell: N", () -> {
            String text = "perm 1";
            for (int n = 2; n <= 8; n++) {
                text += " " + n;
                Check.due("cell of '" + text + "'", Check.tell(new GrassCells(), text), n);
            }
        });
        Check.holds("Promise 4, cell: -2 - its FAULT", () -> {
            GrassCells x = new GrassCells();
            Check.due("the least FAULT", Check.tell(x, ""), -2 - 1);
            Check.due("the greatest FAULT", Check.tell(x, " ".repeat(160)), -2 - 1281);
            Check.due("a FAULT of kind 2", Check.tell(x, "perm 0 1"), -2 - 42);
            Check.due("a FAULT of kind 3", Check.tell(x, "perm 1 1"), -2 - 59);
        });
        Check.holds("Promise 4, cell: the TAPE is empty then", () -> {
            GrassCells x = new GrassCells();
            Check.tell(x, "perm 1 2");
            Check.due("bytes behind a CELL", x.count(9), 0);
            x.feed(Check.word("perm", 0), Check.word("3 4 ", 0), Check.word("    ", 0), 0, 0);
            x.end(12);
            Check.due("cell of what is fed then", x.cell(), 2);
            Check.due("F of what is fed then", x.f(1), 3);
            Check.tell(x, "perm 1 x");
            Check.due("bytes behind a FAULT", x.count(9), 0);
            Check.due("cell of nothing", x.cell(), -3);
        });
        Check.holds("Promise 4, cell: the TAPE alone tells the CELL, nothing of a text ahead", () -> {
            String[] texts = {TOP, "perm 1 2", "fill ddll/++/0+", "fill dldldldl/0000/+++/++/+", "fill ll",
                "neck 1 2 3", "neck 12 23 34 14", "neck" + " 678".repeat(8), "perm 9 9", "fill dl/++", "neck 12", "x"};
            for (String ahead : texts) {
                for (String text : texts) {
                    GrassCells x = new GrassCells();
                    Check.tell(x, ahead);
                    GrassCells y = new GrassCells();
                    String name = text + " behind " + ahead;
                    int answer = Check.tell(x, text);
                    Check.due(name, answer, Check.tell(y, text));
                    Check.due(name + ": F", answer < 0 || Check.perm(x).equals(Check.perm(y)), true);
                }
            }
        });
        Check.holds("Promise 4, cell: with a FAULT nothing happens but for the TAPE", () -> {
            String[] faults = {"", "x", "perm 1 2 x", "perm 5 6 0", "perm 2 1", "fill ddll/++/+", "fill ddll/++/+0",
                "neck 12 23 34", "neck 12 12 12 15", "neck 12 23 34 34", "perm 1 2 3 4 5 6 7 8 9"};
            for (String text : faults) {
                Twins.differInNothing("cell of '" + text + "'", x -> {
                    twoActs(x);
                    x.end(0);
                }, x -> {
                    twoActs(x);
                    Check.due("cell of '" + text + "'", Check.tell(x, text) < 0, true);
                });
                Twins.changesNothing("cell of '" + text + "' without a CELL", x -> { }, x -> Check.tell(x, text));
            }
        });
        Check.holds("Terms, ACTS: a CELL is told, be it another one or the same", () -> {
            GrassCells x = Check.told(TOP);
            Check.due("ACTS", x.count(7), 1);
            Check.tell(x, TOP);
            Check.due("ACTS", x.count(7), 2);
            Check.tell(x, "perm 1 2");
            Check.due("ACTS", x.count(7), 3);
        });
    }

    private static void twoActs(GrassCells x) {
        Check.tell(x, TOP);
        x.keep(2);
        x.move(Check.set("13"));
        x.feed(1, 2, 3, 4, 5);
    }
}
