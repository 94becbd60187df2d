/** Promise 4 by texts: what each is told to be, its FAULT worked out by hand as a place and a kind. */
public final class FaultsTest {
    private FaultsTest() {
    }

    public static void main(String[] args) {
        told();
        words();
        numbers();
        fillings();
        sets();
        whatAFaultLeaves();
        Check.close("FaultsTest");
    }

    private static void well(String text, String perm) {
        GrassCells x = new GrassCells();
        Check.due("cell of '" + text + "'", Check.tell(x, text), perm.split(" ").length - 1);
        if (!Check.perm(x).equals(perm)) {
            Check.due("F of '" + text + "' is " + Check.perm(x) + " and not " + perm, 0, 1);
        }
    }

    private static void fault(String text, int place, int kind) {
        Check.due("cell of '" + text + "'", Check.tell(new GrassCells(), text), -2 - (8 * place + kind));
    }

    private static void told() {
        well("perm 3 4 5 6", "perm 3 4 5 6");
        well("perm3 4", "perm 3 4");
        well("  perm  03   4  5 06  ", "perm 3 4 5 6");
        well("perm 1 2 3 4 5 6 7 8", "perm 1 2 3 4 5 6 7 8");
        well("perm 9 10 11 12 13 14 15 16", "perm 9 10 11 12 13 14 15 16");
        well("perm 1 4", "perm 1 4");
        well("fill ddll / ++ / ++", "perm 3 4 5 6");
        fault("fillddll", 0, 1);
        well("fill ddll/++/++", "perm 3 4 5 6");
        well("   fill   ddll  /  ++ /++  ", "perm 3 4 5 6");
        well("fill ll", "perm 1 2");
        well("fill dd//", "perm 3 4");
        well("fill dd / / ", "perm 3 4");
        well("fill ld/", "perm 1 4");
        well("fill dl/+", "perm 2 3");
        well("fill dl/0", "perm 3 2");
        well("fill dldldldl/++++/+++/++/+", "perm 2 4 6 8 9 11 13 15");
        well("neck 12 23 34 14", "perm 3 4 5 6");
        well("neck 12 23 34 14   ", "perm 3 4 5 6");
        well("neck12 12", "perm 3 4");
        well("neck 1 1", "perm 3 2");
        well("neck 1 2", "perm 2 3");
        well("neck 12345678 12345678 12345678 12345678 12345678 12345678 12345678 12345678",
                "perm 9 10 11 12 13 14 15 16");
    }

    private static void words() {
        fault("", 0, 1);
        fault("   ", 3, 1);
        fault("per 1 2", 0, 1);
        fault("  per", 2, 1);
        fault("permx 1 2", 0, 1);
        fault("perma 1 2", 0, 1);
        fault("permz 1 2", 0, 1);
        fault("perm` 1 2", 4, 1);
        fault("perm{ 1 2", 4, 1);
        fault("aerm 1 2", 0, 1);
        fault("Perm 1 2", 0, 1);
        fault("1 2", 0, 1);
        fault(" /", 1, 1);
        fault("neckl 1 2", 0, 1);
        fault("\u00e9perm 1 2", 0, 1);
        fault("filldl/+", 0, 1);
        fault("perm\t1 2", 4, 1);
        fault("perm perm 1 2", 5, 1);
    }

    private static void numbers() {
        fault("perm", 4, 1);
        fault("perm  ", 6, 1);
        fault("perm 1", 6, 1);
        fault("perm 1  ", 8, 1);
        fault("perm 123 4", 5, 1);
        fault("perm 1 0022", 7, 1);
        fault("perm 1 2 3 4 5 6 7 8 9", 21, 1);
        fault("perm 1 2 3 4 5 6 7 8 x", 21, 1);
        fault("perm 1,2", 6, 1);
        fault("perm 17 0 x", 10, 1);
        fault("perm 1 2\0", 8, 1);
        fault("perm 0 2", 5, 2);
        fault("perm 17 2", 5, 2);
        fault("perm 4 00", 7, 2);
        fault("perm 9 99", 7, 2);
        fault("perm 1 2 3 0 17", 11, 2);
        fault("perm 4 2", 5, 3);
        fault("perm 2 4", 7, 3);
        fault("perm 1 1", 7, 3);
        fault("perm 2 1", 7, 3);
        fault("perm 1 4 5 3", 9, 3);
        fault("perm 16 2", 5, 3);
    }

    private static void fillings() {
        fault("fill", 4, 1);
        fault("fill ", 5, 1);
        fault("fill d", 6, 1);
        fault("fill dx", 6, 1);
        fault("fill d / ", 6, 1);
        fault("fill d l / +", 6, 1);
        fault("fill dl", 7, 1);
        fault("fill dl ", 8, 1);
        fault("fill dl/", 8, 1);
        fault("fill dl / ++", 11, 1);
        fault("fill dl / + +", 12, 1);
        fault("fill dl / + /", 12, 1);
        fault("fill ddll / ++ ", 15, 1);
        fault("fill ddll / + + / ++", 13, 1);
        fault("fill ddll / + / ++", 13, 1);
        fault("fill dl / 1", 10, 1);
        fault("fill ll /", 8, 1);
        fault("fill ld / +", 10, 1);
        fault("fill dddddddd d", 14, 1);
        fault("fill lllllllll", 13, 1);
        fault("fill dlp", 7, 1);
        fault("fill ddll / ++ / +0", 18, 3);
        fault("fill ddll / 0+ / +0", 18, 3);
        well("fill ddll / ++ / 0+", "perm 3 4 6 5");
        well("fill ddll / +0 / ++", "perm 4 3 5 6");
        fault("fill dddlll /+++/+00/+00", 18, 3);
        fault("fill dddlll /+++/+00/+0", 23, 1);
        fault("fill dddlll /00+/000/+00", 23, 3);
    }

    private static void sets() {
        fault("neck", 4, 1);
        fault("neck 12", 7, 1);
        fault("neck 12 ", 8, 1);
        fault("neck 12 3", 9, 1);
        fault("neck 12 3 34 14", 9, 1);
        fault("neck 12 23 34 145", 16, 1);
        fault("neck 1223", 7, 1);
        fault("neck 21 12", 6, 1);
        fault("neck 11 12", 6, 1);
        fault("neck 0 1", 5, 1);
        fault("neck 19 1", 6, 1);
        fault("neck 12 32", 9, 1);
        fault("neck 12 81", 9, 1);
        fault("neck / 1", 5, 1);
        fault("neck 1 1 1 1 1 1 1 1 1", 21, 1);
        fault("neck 1 1 1 1 1 1 1 1 x", 21, 1);
        fault("neck 13 23", 6, 2);
        fault("neck 123 123", 7, 2);
        fault("neck 12 12 24 13", 11, 3);
        fault("neck 12 12 24", 12, 2);
        fault("neck 12 13 15 45", 12, 2);
        fault("neck 12 13 14 13", 8, 3);
        fault("neck 2 1", 7, 3);
        fault("neck 1 2 3 3", 11, 3);
        fault("neck 12 23 34 34", 14, 3);
        well("neck 12 23 34 24", "perm 3 4 6 5");
        fault("neck 1 1 2", 9, 3);
        fault("neck 1 1 3", 9, 3);
    }

    private static void whatAFaultLeaves() {
        GrassCells x = Check.told("perm 3 4 5 6");
        x.move(Check.set("13"));
        Check.due("cell of a fault", Check.tell(x, "perm 2 1"), -2 - 59);
        Check.due("the TAPE behind a fault", x.count(9), 0);
        Check.due("F behind a fault", x.f(1), 3);
        Check.due("CLUSTER behind a fault", x.cluster(3), 10);
        Check.due("ACTS behind a fault", x.count(7), 2);
        Check.due("an empty TAPE", x.cell(), -3);
        x.feed(Check.word("perm", 0), Check.word(" 2 3", 0), 0, 0, 0);
        Check.due("zeros can't stand", x.cell(), -2 - 65);
        Check.due("a byte can't stand", Check.tell(new GrassCells(), "\u0080"), -3);
    }
}
