/** The boundary cases that promises 11 to 17 and "KINDS", "shines" of the Terms name: towns, cells, lamps, their light. */
public final class TownsTest extends Checks {
    /** Six by four CELLS without a wall. */
    private static final String OPEN = "g64 D..... ...... ...... ......";
    private static final String KINDS = "g63 D..... ..#... ...... l202 f221 c112 h412 o523 b001";

    private static int light(String town) {
        return town(town).shines(0);
    }

    private static void lines() {
        test(0, "A LAMP shines on its own CELL, and on those straight up, right, down, left of it", () -> {
            due(light(OPEN + "l221"), bits(14, 8, 15, 20, 13));
            due(light(OPEN + "l222"), bits(14, 8, 2, 15, 16, 20, 13, 12));
        });
        test(0, "as far as its REACH tells: 1, 5", () -> {
            due(light("g61D.....l001"), bits(0, 1));
            due(light("g61D.....l004"), bits(0, 1, 2, 3, 4));
            due(light("g61D.....l005"), bits(0, 1, 2, 3, 4, 5));
        });
        test(0, "or to the wall: it is not shone on, nor what is behind it", () -> {
            due(light("g61D.#...l005"), bits(0, 1));
            due(light("g61D..#..l505"), bits(5, 4));
            due(light("g24 D. .. #. .. l005"), bits(0, 1, 2));
            due(light("g24 D. #. .. .. l035"), bits(6, 4, 7));
        });
        test(0, "or to the town's end, right: not on in the next row", () ->
            due(light(OPEN + "l415"), bits(10, 4, 11, 16, 22, 9, 8, 7, 6)));
        test(0, "or to the town's end, left: not on in the row ahead", () ->
            due(light(OPEN + "l112"), bits(7, 1, 8, 9, 13, 19, 6)));
        test(0, "or to the town's end, up and down", () -> {
            due(light(OPEN + "l005"), bits(0, 1, 2, 3, 4, 5, 6, 12, 18));
            due(light(OPEN + "l535"), bits(23, 22, 21, 20, 19, 18, 17, 11, 5));
        });
        test(0, "FAR: one CELL more", () -> {
            due(light(OPEN + "f221"), bits(14, 8, 2, 15, 16, 20, 13, 12));
            due(light("g61D.....f004"), bits(0, 1, 2, 3, 4, 5));
            due(light("g61D.....f003"), bits(0, 1, 2, 3, 4));
            due(light("g61D.#...f005"), bits(0, 1));
        });
    }

    private static void corners() {
        test(0, "CORNER: on all to which one comes from it in as many steps as its REACH tells or fewer", () -> {
            due(light(OPEN + "c221"), bits(14, 8, 15, 20, 13));
            due(light(OPEN + "c222"), bits(14, 8, 15, 20, 13, 2, 7, 9, 12, 16, 19, 21));
        });
        test(0, "CORNER: from street to street, not through a wall", () -> {
            due(light("g33 D.. ##. ... l005"), bits(0, 1, 2));
            due(light("g33 D.. ##. ... c005"), bits(0, 1, 2, 5, 8, 7));
            due(light("g33 D.. ##. ... c004"), bits(0, 1, 2, 5, 8));
            due(light("g33 D#. ##. ... c005"), bits(0));
            due(light("g22 D# #. c115"), bits(3));
        });
        test(0, "CORNER: from street to street, not over the town's ends", () -> {
            due(light("g62 D....# #..... c401"), bits(4, 3, 10));
            due(light("g32 D#. .#. c205"), bits(2, 5));
            due(light("g32 D#. .#. c015"), bits(3, 0));
            due(light("g24 .# .D #. #. c005"), bits(0, 2, 3, 5, 7));
        });
        test(0, "BRIGHT: as CORNER, one step more", () -> {
            due(light(OPEN + "b221"), bits(14, 8, 15, 20, 13, 2, 7, 9, 12, 16, 19, 21));
            due(light("g33 D.. ##. ... b004"), bits(0, 1, 2, 5, 8, 7));
            due(light("g33 D.. ##. ... b005"), bits(0, 1, 2, 5, 8, 7, 6));
        });
    }

    private static void hoods() {
        test(0, "HOODED: right and left alone", () -> {
            due(light(OPEN + "h221"), bits(14, 13, 15));
            due(light(OPEN + "h225"), bits(12, 13, 14, 15, 16, 17));
            due(light(OPEN + "h002"), bits(0, 1, 2));
            due(light(OPEN + "h535"), bits(23, 22, 21, 20, 19, 18));
            due(light("g61D.#...h304"), bits(3, 4, 5));
        });
        test(0, "FOGGED: as HOODED, one CELL less", () -> {
            due(light(OPEN + "o222"), bits(14, 13, 15));
            due(light(OPEN + "o225"), bits(12, 13, 14, 15, 16, 17));
            due(light("g61D.....o005"), bits(0, 1, 2, 3, 4));
        });
        test(0, "FOGGED: one CELL less than 1 is its own CELL alone", () -> due(light(OPEN + "o221"), bits(14)));
        test(0, "SHADED ones shine on their own CELL alone", () -> {
            for (char kind : "lfchob".toCharArray()) {
                OwnLight x = town(OPEN + kind + "225");
                x.shade(0, 1);
                due(x.shines(0), bits(14));
            }
        });
    }

    private static void towns() {
        test(11, "A TOWN by a TEXT: how many LAMPS", () -> {
            due(withText(new OwnLight(), 3, KINDS).town(3), 6);
            due(withText(new OwnLight(), 0, "g21D.").town(0), 0);
        });
        test(11, "A TOWN by a TEXT: the smallest, the largest", () -> {
            OwnLight x = town("g21D.");
            due(x.count(0), 2);
            due(x.cell(1), 0);
            OwnLight y = town("g64.......................D");
            due(y.count(0), 24);
            due(y.cell(23), 2);
            due(y.begin(), 23);
        });
        test(11, "anew: CELLS and LAMPS of the one ahead go", () -> {
            OwnLight x = withText(town(KINDS), 1, "g22 .D .. h011");
            due(x.town(1), 1);
            due(x.count(0), 4);
            due(x.count(1), 1);
            due(x.cell(0), 0);
            due(x.asked(), NONE);
            stays(x, BAD, () -> x.cell(4));
            stays(x, BAD, () -> x.lamp(1, 0));
            due(x.shines(0), bits(2, 3));
            due(x.light(1), bits(2, 3));
            stays(x, BAD, () -> x.light(2));
        });
        test(11, "anew: narrower or wider than the one ahead", () -> {
            OwnLight x = withText(town("g24 D. .. .. .. l005"), 1, OPEN + "l405");
            x.town(1);
            due(x.shines(0), bits(0, 1, 2, 3, 4, 5, 10, 16, 22));
            due(x, x.thief(23, 0), (1 << 24) - 1, 24);
            x.town(0);
            due(x.shines(0), bits(0, 1, 2, 4, 6));
            due(x, x.thief(7, 0), 255, 8);
        });
        test(11, "anew: no more LAMPS than there are", () -> {
            OwnLight x = withText(town("g61D.....c001b101c201b301h401o501"), 1, "g61D.....b405");
            x.town(1);
            due(x.count(4), 1);
            due(x.count(5), 0);
            due(x.mark(0, 5), 0);
            due(x, x.bars(0), 0, 0);
            due(x, x.cell(0), 2, NONE);
            due(x, x.rings(), 0, 0);
            due(x.shortest(0), 4);
            dueRow(x, 0, 0);
            x.orders();
            dueFraction(x, 1, 1);
            due(x, x.dawn(), 0, 0);
            due(x, x.two(5), 1, 0);
        });
        test(11, "anew: the orders of the one ahead go", () -> {
            OwnLight x = withText(town("g51D....l101l301"), 1, "g51D....l201");
            due(x.shortest(0), 3);
            x.town(1);
            due(x.shortest(0), 2);
            dueRow(x, 0, 0);
        });
        test(11, "none SHADED", () -> {
            OwnLight x = town("g51D....l101l301");
            x.shade(0, 1);
            x.shade(1, 1);
            due(x.town(0), 2);
            due(x.count(3), 0);
            due(x.shines(0), bits(0, 1, 2));
            due(x.shines(1), bits(2, 3, 4));
        });
        test(11, "a ROUND begun", () -> {
            OwnLight x = town("g51D....l001l301");
            acts(x, LIGHT, RIGHT);
            x.town(0);
            due(x, x.where(), 0, 0);
            due(x, x.lit(), 0, NONE);
            due(x, x.may(), 2 | 16, 0);
            stays(x, 0, () -> x.undo(0));
            stays(x, BAD, () -> x.undo(1));
        });
        test(11, "a ROUND begun: also where one was gone on from", () -> {
            OwnLight x = town("g51D....l001l301");
            acts(x, LIGHT, RIGHT);
            x.keep(0);
            x.on(0);
            x.town(0);
            due(x, x.where(), 0, 0);
            due(x, x.lit(), 0, NONE);
            due(x, x.may(), 2 | 16, 0);
        });
        test(11, "nothing SEEN", () -> {
            OwnLight x = town("g51D....l101l301");
            for (int i = 0; i < 8; i++) {
                x.saw(0, 1);
            }
            x.town(0);
            due(x.count(8), 0);
            due(x.saw(1, 0), 0);
            due(x.sure(1, 0), 1);
        });
        test(11, "kept ROUNDS go", () -> {
            OwnLight x = town("g51D....l101l301");
            x.keep(0);
            x.keep(1);
            x.keep(2);
            x.town(0);
            for (int i = 0; i < 3; i++) {
                int k = i;
                found(x, NOTHING, () -> x.on(k));
            }
        });
        test(11, "by a TEXT: what is put there later doesn't change the TOWN", () -> {
            OwnLight x = town("g51D....l101");
            x.put(0, 4, '#');
            x.text(0, 3);
            due(x.cell(1), 0);
            due(x.shines(0), bits(0, 1, 2));
        });
        test(11, "BAD", () -> {
            OwnLight x = withText(town("g51D....l101"), 3, "g21D.");
            acts(x, RIGHT);
            stays(x, BAD, () -> x.town(4));
            stays(x, BAD, () -> x.town(-1));
        });
        test(11, "NOTHING", () -> {
            OwnLight x = town("g51D....l101");
            acts(x, RIGHT);
            found(x, NOTHING, () -> x.town(1));
            found(x, NOTHING, () -> x.town(3));
        });
        test(11, "STATE: a FAULT", () -> {
            OwnLight x = withText(town("g51D....l101l301"), 2, "g62 .......D.... l501 b111 x");
            acts(x, RIGHT, LIGHT);
            x.shade(1, 1);
            x.saw(0, 1);
            x.keep(1);
            stays(x, STATE, () -> x.town(2));
            due(x.count(3), 1);
            due(x.on(1), 1);
            due(x, x.lit(), 1, 0);
        });
        test(11, "STATE: a FAULT, also of an empty TEXT", () -> {
            OwnLight x = new OwnLight();
            x.text(0, 0);
            stays(x, STATE, () -> x.town(0));
            due(x.count(0), 0);
            stays(x, STATE, x::begin);
        });
        test(11, "(STATE behind NOTHING.)", () -> {
            OwnLight x = new OwnLight();
            found(x, NOTHING, () -> x.town(0));
            stays(x, BAD, () -> x.town(4));
        });
    }

    private static void cells() {
        test(12, "What a CELL is (0 a street, 1 a wall, 2 the DOOR); the LAMP in it by asked() (NONE)", () -> {
            OwnLight x = town("g32 .D# #.. l211 f101");
            int[] whats = {0, 2, 1, 1, 0, 0};
            int[] lamps = {NONE, 1, NONE, NONE, NONE, 0};
            for (int c = 0; c < 6; c++) {
                due(x, x.cell(c), whats[c], lamps[c]);
            }
        });
        test(12, "What a CELL is: the first, the last of 24", () -> {
            OwnLight x = town("g64 D..... ...... ...... .....# l401");
            due(x, x.cell(0), 2, NONE);
            due(x, x.cell(4), 0, 0);
            due(x, x.cell(23), 1, NONE);
        });
        test(12, "BAD", () -> {
            OwnLight x = town("g21D.l001");
            due(x, x.cell(1), 0, NONE);
            stays(x, BAD, () -> x.cell(2));
            stays(x, BAD, () -> x.cell(-1));
            stays(x, BAD, () -> x.cell(32));
            stays(x, BAD, () -> x.cell(MOST));
            stays(x, BAD, () -> x.cell(LEAST));
        });
        test(12, "BAD: there are no CELLS", () -> {
            OwnLight x = new OwnLight();
            stays(x, BAD, () -> x.cell(0));
        });
    }

    private static void lamps() {
        test(13, "Of a LAMP: 0 its KIND, 1 its CELL, 2 REACH", () -> {
            OwnLight x = town(KINDS);
            int[][] all = {{0, 2, 2}, {1, 14, 1}, {2, 7, 2}, {3, 10, 2}, {4, 17, 3}, {5, 0, 1}};
            for (int k = 0; k < 6; k++) {
                for (int what = 0; what < 3; what++) {
                    due(x, x.lamp(k, what), 1, all[k][what]);
                }
            }
        });
        test(13, "3 whether it is lit (1, 0)", () -> {
            OwnLight x = town("g21D.o001o101");
            due(x, x.lamp(0, 3), 1, 0);
            acts(x, LIGHT);
            due(x, x.lamp(0, 3), 1, 1);
            due(x, x.lamp(1, 3), 1, 0);
            x.undo(0);
            due(x, x.lamp(0, 3), 1, 0);
        });
        test(13, "4 whether it is SHADED (1, 0)", () -> {
            OwnLight x = town("g21D.o001o101");
            x.shade(1, 1);
            due(x, x.lamp(0, 4), 1, 0);
            due(x, x.lamp(1, 4), 1, 1);
            x.shade(1, 0);
            due(x, x.lamp(1, 4), 1, 0);
        });
        test(13, "BAD: a LAMP that is none", () -> {
            OwnLight x = town("g21D.o001o101");
            due(x.lamp(1, 0), 1);
            stays(x, BAD, () -> x.lamp(2, 0));
            stays(x, BAD, () -> x.lamp(-1, 0));
            stays(x, BAD, () -> x.lamp(8, 0));
            OwnLight y = town("g21D.");
            stays(y, BAD, () -> y.lamp(0, 0));
        });
        test(13, "BAD: none of 0 to 4", () -> {
            OwnLight x = town("g21D.o001o101");
            stays(x, BAD, () -> x.lamp(0, 5));
            stays(x, BAD, () -> x.lamp(0, -1));
            stays(x, BAD, () -> x.lamp(0, MOST));
        });
    }

    private static void marks() {
        test(14, "a FAR one on how many CELLS it shines", () -> {
            due(town(OPEN + "f221").mark(0, 1), 8);
            due(town("g21D.f005").mark(0, 1), 2);
            due(town("g21D#f005").mark(0, 1), 1);
        });
        test(14, "a CORNER on how many more than by lines alone as far", () -> {
            due(town(OPEN + "c221").mark(0, 2), 0);
            due(town(OPEN + "c222").mark(0, 2), 4);
            due(town("g33 D.. ##. ... c005").mark(0, 2), 3);
            due(town("g21D#c005").mark(0, 2), 0);
        });
        test(14, "(BRIGHT, too): by lines as far as it shines, one more than its REACH", () -> {
            due(town(OPEN + "b221").mark(0, 2), 4);
            due(town("g61D.....b004").mark(0, 2), 0);
        });
        test(14, "a HOODED one on how many fewer than if it were of KIND 0", () -> {
            due(town(OPEN + "h222").mark(0, 3), 3);
            due(town("g61D.....h303").mark(0, 3), 0);
            due(town("g24D.......h004").mark(0, 3), 3);
        });
        test(14, "(FOGGED, too): also those that it is short of right and left", () -> {
            due(town(OPEN + "o222").mark(0, 3), 5);
            due(town(OPEN + "o221").mark(0, 3), 4);
            due(town("g61D.....o305").mark(0, 3), 0);
        });
        test(14, "a FOGGED one on how many it shines", () -> {
            due(town(OPEN + "o222").mark(0, 4), 3);
            due(town(OPEN + "o221").mark(0, 4), 1);
        });
        test(14, "a BRIGHT one how many LAMPS' CELLS it shines on (its own aside)", () -> {
            due(town(OPEN + "b221").mark(0, 5), 0);
            due(town("g21D.b101").mark(0, 5), 0);
            due(town("g21D.b101l001").mark(0, 5), 1);
            due(town(OPEN + "b221 l001 l211 o331 h421 f501").mark(0, 5), 3);
            due(town("g61D.....l001l101l201b305l401l501").mark(3, 5), 5);
        });
        test(14, "(SHADED ones as if not.)", () -> {
            OwnLight x = town(OPEN + "f221 c301 h111 o132 b501");
            int[][] asks = {{0, 1}, {1, 2}, {2, 3}, {3, 3}, {3, 4}, {4, 2}, {4, 5}};
            int[] told = new int[asks.length];
            for (int i = 0; i < asks.length; i++) {
                told[i] = x.mark(asks[i][0], asks[i][1]);
            }
            for (int k = 0; k < 5; k++) {
                x.shade(k, 1);
            }
            due(told[0], 8);
            for (int i = 0; i < asks.length; i++) {
                due(x.mark(asks[i][0], asks[i][1]), told[i]);
            }
        });
        test(14, "BAD: a LAMP that is none", () -> {
            OwnLight x = town("g21D.f001");
            due(x.mark(0, 1), 2);
            stays(x, BAD, () -> x.mark(1, 1));
            stays(x, BAD, () -> x.mark(-1, 1));
        });
        test(14, "BAD: a KIND that is none", () -> {
            OwnLight x = town("g21D.b001");
            due(x.mark(0, 5), 0);
            stays(x, BAD, () -> x.mark(0, 6));
            stays(x, BAD, () -> x.mark(0, -1));
            stays(x, BAD, () -> x.mark(0, LEAST));
        });
        test(14, "BAD: also KIND 0", () -> {
            OwnLight x = town(KINDS);
            for (int i = 0; i < 6; i++) {
                int k = i;
                stays(x, BAD, () -> x.mark(k, 0));
            }
        });
        test(14, "UNLIKE", () -> {
            OwnLight x = town(KINDS);
            int[] told = {0, bits(1), bits(2), bits(3), bits(3, 4), bits(2, 5)};
            for (int i = 0; i < 6; i++) {
                int k = i;
                for (int j = 1; j <= 5; j++) {
                    int kind = j;
                    if ((told[k] >> kind & 1) == 0) {
                        found(x, UNLIKE, () -> x.mark(k, kind));
                    } else {
                        due(x.mark(k, kind) >= 0 ? 1 : 0, 1);
                    }
                }
            }
        });
        test(14, "BAD ahead of UNLIKE", () -> {
            OwnLight x = town("g21D.l001");
            stays(x, BAD, () -> x.mark(0, 0));
            stays(x, BAD, () -> x.mark(1, 2));
        });
    }

    private static void lights() {
        test(15, "CELLS (bits) on which a LAMP shines (SHADED: so)", () -> {
            OwnLight x = town(KINDS);
            int[] lights = {31, 126976, 28871, 3584, 229376, 4295};
            for (int k = 0; k < 6; k++) {
                due(x.shines(k), lights[k]);
            }
            x.shade(1, 1);
            due(x.shines(1), bits(14));
            due(x.shines(0), 31);
            x.shade(1, 0);
            due(x.shines(1), 126976);
        });
        test(15, "BAD", () -> {
            OwnLight x = town("g21D.l001");
            due(x.shines(0), 3);
            stays(x, BAD, () -> x.shines(1));
            stays(x, BAD, () -> x.shines(-1));
            stays(x, BAD, () -> x.shines(LEAST));
            OwnLight y = new OwnLight();
            stays(y, BAD, () -> y.shines(0));
        });

        test(16, "CELLS (bits) on which LAMPS of a set shine together; how many by asked()", () -> {
            OwnLight x = town("g61D.....l001o301h501");
            due(x, x.light(1), bits(0, 1), 2);
            due(x, x.light(2), bits(3), 1);
            due(x, x.light(3), bits(0, 1, 3), 3);
            due(x, x.light(7), bits(0, 1, 3, 4, 5), 5);
            x.shade(0, 1);
            due(x, x.light(5), bits(0, 4, 5), 3);
        });
        test(16, "LAMPS of a set shine together: CELLS in the light of several count once", () -> {
            OwnLight x = town("g61D.....l101h201");
            due(x, x.light(3), bits(0, 1, 2, 3), 4);
        });
        test(16, "LAMPS of a set: an empty one", () -> {
            OwnLight x = town("g61D.....l101h201");
            x.light(1);
            due(x, x.light(0), 0, 0);
        });
        test(16, "LAMPS of a set: without LAMPS, without CELLS", () -> {
            OwnLight x = town("g21D.");
            due(x, x.light(0), 0, 0);
            stays(x, BAD, () -> x.light(1));
            OwnLight y = new OwnLight();
            due(y, y.light(0), 0, 0);
            stays(y, BAD, () -> y.light(1));
        });
        test(16, "BAD", () -> {
            OwnLight x = town(KINDS);
            due(x.light(63) > 0 ? 1 : 0, 1);
            stays(x, BAD, () -> x.light(64));
            stays(x, BAD, () -> x.light(-1));
            stays(x, BAD, () -> x.light(LEAST));
            stays(x, BAD, () -> x.light(MOST));
            OwnLight y = town("g21D.l001");
            stays(y, BAD, () -> y.light(2));
            stays(y, BAD, () -> y.light(3));
        });
    }

    private static void shades() {
        test(17, "A LAMP is SHADED (1) or not (0): what it was", () -> {
            OwnLight x = town("g51D....l101l301");
            due(x.shade(0, 1), 0);
            due(x.count(3), 1);
            due(x.shade(0, 1), 1);
            due(x.count(3), 1);
            due(x.shade(1, 1), 0);
            due(x.count(3), 2);
            due(x.shade(0, 0), 1);
            due(x.shade(0, 0), 0);
            due(x.count(3), 1);
        });
        test(17, "BAD: a LAMP that is none", () -> {
            OwnLight x = town("g51D....l101l301");
            stays(x, BAD, () -> x.shade(2, 1));
            stays(x, BAD, () -> x.shade(-1, 1));
            OwnLight y = new OwnLight();
            stays(y, BAD, () -> y.shade(0, 1));
        });
        test(17, "BAD: neither 1 nor 0", () -> {
            OwnLight x = town("g51D....l101l301");
            stays(x, BAD, () -> x.shade(0, 2));
            stays(x, BAD, () -> x.shade(0, -1));
            stays(x, BAD, () -> x.shade(0, 3));
            stays(x, BAD, () -> x.shade(0, MOST));
        });
        test(17, "STATE: it is lit", () -> {
            OwnLight x = town("g51D....l001l301");
            acts(x, LIGHT);
            stays(x, STATE, () -> x.shade(0, 1));
            stays(x, STATE, () -> x.shade(0, 0));
            due(x.shade(1, 1), 0);
            x.undo(0);
            due(x.shade(0, 1), 0);
        });
        test(17, "BAD ahead of STATE", () -> {
            OwnLight x = town("g51D....l001l301");
            acts(x, LIGHT);
            stays(x, BAD, () -> x.shade(0, 2));
            stays(x, BAD, () -> x.shade(2, 1));
        });
    }

    public static void main(String[] args) {
        lines();
        corners();
        hoods();
        towns();
        cells();
        lamps();
        marks();
        lights();
        shades();
        end();
    }
}
