/** The boundary cases that promise 10 and "TOWN", "FAULT" of the Terms name: which texts are towns. */
public final class FaultsTest extends Checks {
    /** Six LAMPS, one behind the other, in 33 bytes. */
    private static final String SIX = "g61D.....l001l101l201l301l401l501";

    /** On a new object, and on one that is a TOWN already. */
    private static void due(String text, int fault) {
        due(new OwnLight(), text, fault);
        due(town("g64D....................... l001f101c201h301o401b501"), text, fault);
        due(town("g21.D"), text, fault);
    }

    private static void due(OwnLight x, String text, int fault) {
        withText(x, 1, text);
        due(x.fault(1), fault);
        due(x.town(1) == STATE ? 1 : 0, fault == NONE ? 0 : 1);
    }

    private static String blanks(int n) {
        return " ".repeat(n);
    }

    private static void blanks() {
        test(0, "blanks (32) ahead, as many as wanted", () -> {
            due(" g21D.", NONE);
            due(blanks(75) + "g21D.", NONE);
        });
        test(0, "blanks (32) between, as many as wanted", () -> {
            due("g21 D . l001 f101", NONE);
            due("g21" + blanks(30) + "D." + blanks(20) + "l001" + blanks(17) + "f101", NONE);
        });
        test(0, "(blanks may be between) the CELLS' signs", () -> {
            due("g21D .", NONE);
            due("g22 D" + blanks(24) + "." + blanks(24) + "." + blanks(24) + ".", NONE);
        });
        test(0, "blanks (32) behind, as many as wanted", () -> {
            due("g21D. ", NONE);
            due("g21D.l001 ", NONE);
            due("g21D." + blanks(75), NONE);
        });
        test(0, "no blanks need be", () -> due("g21D.l001f101", NONE));
        test(0, "none within items: g, w, h", () -> {
            due("g 21D.", 1);
            due("g2 1D.", 2);
        });
        test(0, "none within items: a LAMP", () -> {
            due("g21D.l 001", 6);
            due("g21D.l0 01", 7);
            due("g21D.l00 1", 8);
        });
        test(0, "blanks (32): no other sign is one", () -> {
            for (char sign : new char[] {0, 9, 10, 13, 31, 33, 127, 160, 255}) {
                due(sign + "g21D.", 0);
                due("g21" + sign + "D.", 3);
                due("g21D" + sign + ".", 4);
                due("g21D." + sign, 5);
                due("g21D.l001" + sign + "l101", 9);
            }
        });
    }

    private static void sizes() {
        test(0, "The first item is g (103)", () -> {
            for (char sign : "GfhDl.#20".toCharArray()) {
                due(sign + "21D.", 0);
                due(" " + sign + "21D.", 1);
            }
        });
        test(0, "w (2 .. 6)", () -> {
            due("g21D.", NONE);
            due("g61D.....", NONE);
            for (char sign : "01789/:-wD".toCharArray()) {
                due("g" + sign + "1D.......", 1);
            }
        });
        test(0, "h (1 .. 4)", () -> {
            due("g21D.", NONE);
            due("g24D.......", NONE);
            for (char sign : "056789/:-h.".toCharArray()) {
                due("g2" + sign + "D.........", 2);
            }
        });
        test(0, "one figure each", () -> {
            due("g021D.", 1);
            due("g201D.", 2);
            due("g210D.", 3);
        });
        test(0, "as many signs as there are CELLS: the fewest", () -> {
            due("g21D", 4);
            due("g21D.", NONE);
            due("g21D..", 5);
            due("g21D.#", 5);
        });
        test(0, "as many signs as there are CELLS: the most", () -> {
            String cells = "g64D......................";
            due(cells, 26);
            due(cells + ".", NONE);
            due(cells + "..", 27);
        });
    }

    private static void signs() {
        test(0, ". (46) a street, # (35) a wall, D (68) a street with the DOOR", () -> {
            OwnLight x = town("g31 .#D");
            due(x.cell(0), 0);
            due(x.cell(1), 1);
            due(x.cell(2), 2);
        });
        test(0, "a sign that is none such: its place", () -> {
            for (char sign : "d,-/\"$CEgl01x".toCharArray()) {
                due("g31" + sign + "D.", 3);
                due("g31D." + sign, 5);
                due("g31D . " + sign, 7);
            }
        });
        test(0, "(just one), a second D: its place", () -> {
            due("g21DD", 4);
            due("g31D.D", 5);
            due("g31 D . D", 8);
            due("g21D.D", 5);
        });
        test(0, "the place behind the last CELL's sign, if there was no D", () -> {
            due("g21..", 5);
            due("g21.#", 5);
            due("g21 . .   ", 7);
            due("g21.. l001", 5);
            due("g21..l001", 5);
            due("g21..D", 5);
            due("g64........................", 27);
            due("g64########################", 27);
        });
        test(0, "no street but the DOOR", () -> {
            due("g21D#", NONE);
            due("g21D#l001", NONE);
        });
    }

    private static void lamps() {
        test(0, "LAMPS (none, ..)", () -> {
            due("g21D.", NONE);
            due(town("g21D.").count(1), 0);
        });
        test(0, "(.. or 6 at most)", () -> {
            due(SIX, NONE);
            due(town(SIX).count(1), 6);
        });
        test(0, "a seventh LAMP: its place", () -> {
            due("g62D...........l001l101l201l301l401l501l011", 39);
            due("g62D...........l001l101l201l301l401l501   l011", 42);
            due("g62D...........l001l101l201l301l401l501l", 39);
            due(SIX + "l501", 33);
            due(SIX + "x", 33);
            due(SIX + "  ", NONE);
        });
        test(0, "a letter", () -> {
            for (char letter : "lfchob".toCharArray()) {
                due("g21D." + letter + "001", NONE);
            }
            for (char letter : "LFCHOBagdkmpi.#D0~".toCharArray()) {
                due("g21D." + letter + "001", 5);
                due("g21D.l001 " + letter + "101", 10);
            }
        });
        test(0, "a figure x", () -> {
            due("g21D.l101", NONE);
            due("g61D.....l501", NONE);
            for (char figure : "23456789/:-x".toCharArray()) {
                due("g21D.l" + figure + "01", 6);
            }
            due("g61D.....l601", 10);
            due("g24D.......l201", 12);
            due("g24D.......l301", 12);
            due("g34D...........l311", 16);
        });
        test(0, "a figure y of a CELL that may not be: there is none", () -> {
            due("g24D.......l131", NONE);
            due("g24D.......l141", 13);
            due("g21D.l011", 7);
            for (char figure : "123456789/:-y".toCharArray()) {
                due("g21D.l1" + figure + "1", 7);
            }
        });
        test(0, "a figure y of a CELL that may not be: a wall", () -> {
            due("g22D#..l101", 9);
            due("g22D#..l111", NONE);
            due("g22D.#.l011", 9);
        });
        test(0, "a figure y of a CELL that may not be: another LAMP is in it", () -> {
            due("g22D...l001h001", 13);
            due("g22D...l111f101b111", 17);
            due("g22D...l001h011", NONE);
            due("g22D...l001h101", NONE);
        });
        test(0, "in a street CELL: the DOOR's is one", () -> due("g21D.l001", NONE));
        test(0, "REACH (1 .. 5, one figure)", () -> {
            due("g21D.l001", NONE);
            due("g21D.l005", NONE);
            for (char figure : "06789/:-r ".toCharArray()) {
                due("g21D.l00" + figure, 8);
            }
            due("g21D.l0011", 9);
        });
        test(0, "(0, 1, .. as they come)", () -> {
            OwnLight x = town("g31D..h201 b003 o102");
            int[][] all = {{3, 2, 1}, {5, 0, 3}, {4, 1, 2}};
            for (int k = 0; k < 3; k++) {
                for (int what = 0; what < 3; what++) {
                    due(x, x.lamp(k, what), 1, all[k][what]);
                }
            }
        });
        test(0, "a letter: of which KIND a LAMP is", () -> {
            OwnLight x = town("g61D.....l001f101c201h301o401b501");
            for (int k = 0; k < 6; k++) {
                due(x, x.lamp(k, 0), 1, k);
            }
        });
    }

    private static void ends() {
        test(0, "the TEXT's size, if its end comes too early", () -> {
            String whole = "g32 D.#... l001 b112";
            for (int n = 0; n <= whole.length(); n++) {
                boolean complete = n == 10 || n == 11 || n == 15 || n == 16 || n == 20;
                due(whole.substring(0, n), complete ? NONE : n);
            }
        });
        test(0, "the TEXT's size, if its end comes too early: behind blanks", () -> {
            due("   ", 3);
            due(blanks(80), 80);
            due("g32 D.#..   ", 12);
            due("", 0);
        });
        test(0, "the TEXT's size, if its end comes too early: a full TEXT", () -> {
            due(blanks(79) + "g", 80);
            due(blanks(76) + "g21D", 80);
            due(blanks(75) + "g21D.", NONE);
            due(blanks(72) + "g21D.l00", 80);
        });
        test(0, "A FAULT is the first place", () -> {
            due("g11DDx000", 1);
            due("g21DDx000", 4);
            due("g21..x000", 5);
            due("g21D.x000", 5);
            due("g21D.l000x", 8);
        });
    }

    private static void faults() {
        test(10, "A FAULT of a TEXT", () -> {
            OwnLight x = withText(withText(new OwnLight(), 0, "g2x"), 3, "g21D.k");
            stays(x, 2, () -> x.fault(0));
            stays(x, 5, () -> x.fault(3));
        });
        test(10, "A FAULT of a TEXT: an empty one, one of blanks", () -> {
            OwnLight x = new OwnLight();
            x.text(0, 0);
            stays(x, 0, () -> x.fault(0));
            x.text(1, 7);
            stays(x, 7, () -> x.fault(1));
        });
        test(10, "NONE: there is none", () -> {
            OwnLight x = withText(new OwnLight(), 2, "g21D.l001");
            stays(x, NONE, () -> x.fault(2));
            due(x.count(0), 0);
        });
        test(10, "BAD", () -> {
            OwnLight x = withText(withText(new OwnLight(), 0, "g21D."), 3, "g21D.");
            stays(x, BAD, () -> x.fault(4));
            stays(x, BAD, () -> x.fault(-1));
            stays(x, BAD, () -> x.fault(MOST));
            stays(x, BAD, () -> x.fault(LEAST));
        });
        test(10, "NOTHING", () -> {
            OwnLight x = new OwnLight();
            found(x, NOTHING, () -> x.fault(0));
            found(x, NOTHING, () -> x.fault(3));
        });
    }

    public static void main(String[] args) {
        blanks();
        sizes();
        signs();
        lamps();
        ends();
        faults();
        end();
    }
}
