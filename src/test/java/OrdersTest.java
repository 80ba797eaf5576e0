/** The boundary cases that promises 27 to 35 and "ORDER" of the Terms name: orders, and what bars them. */
public final class OrdersTest extends Checks {
    /** Two LAMPS that don't bar one another. */
    private static final String FREE = "g51 D.... l101 l301";
    /** LAMP 0 shines on the CELL of LAMP 1. */
    private static final String BARRED = "g51 D.... l102 l301";
    /** Either LAMP shines on the CELL of the other one. */
    private static final String RING = "g51 D.... l102 l302";
    /** LAMP 1 is behind a wall. */
    private static final String CUT = "g51 D.#.. l101 l401";
    private static final String WALLED = "g51 D#... l201 l401";
    private static final String EMPTY = "g32 .D. #..";
    /** Six LAMPS that don't bar one another, each in its own CELL's light alone. */
    private static final String SIX = "g64 D..... ...... ...... ...... o001o501o031o531o221o311";
    /** Either of LAMPS 0 and 1 shines on the CELL of LAMP 2, which so is the first one. */
    private static final String LED = "g33 ... D.. ... l101 l121 o111";
    /** LAMP 2 is in a ring with each of the other two; round below there is a way. */
    private static final String BETWEEN = "g52 D.... ..... l101 l301 l201";
    private static final String SIX_RING = "g64 .....D ...... ...... ...... h003 l301 h312 l511 h525 l022";

    private static void dueOrders(OwnLight x, int many) {
        due(x.orders(), 1);
        dueFraction(x, many, 1);
    }

    private static void terms() {
        test(0, "An ORDER is a row of LAMPS that can be lit one behind the other", () -> {
            dueOrders(town(FREE), 2);
            dueOrders(town(BARRED), 1);
            dueOrders(town(RING), 0);
        });
        test(0, "An ORDER: no way but through a light", () -> {
            dueOrders(town("g61D.....o101o301"), 2);
            dueOrders(town("g61D.....o101o301o501"), 4);
            dueOrders(town("g61..D...l101l401o001"), 3);
        });
        test(0, "its STEPS are the fewest by which it can", () -> {
            OwnLight x = town("g33 D.. .#. ... o201 o021");
            due(x.shortest(0), 6);
            x = town("g43 D.#. .... #... o301");
            due(x.shortest(0), 5);
        });
        test(0, "its STEPS: along a long way", () -> {
            OwnLight x = town("g64 D#...# .#.#.# .#.#.# ...#.. l531 o001");
            due(x.shortest(0), 14);
            dueRow(x, 0, 1, 0);
            due(x, x.thief(0, 0), bits(0, 6, 12, 18, 19, 20, 14, 8, 2, 3, 4, 10, 16, 22, 23), 15);
            due(x, x.two(23), 0, 2);
        });
        test(0, "its STEPS: his own light is left by the nearest way, INSIDE", () -> {
            OwnLight x = town("g51D....l102l401");
            due(x.shortest(0), 4);
            dueRow(x, 0, 0, 1);
            x = town("g62 D..... ...... c102 l501");
            due(x.shortest(0), 5);
            dueRow(x, 0, 0, 1);
        });
        test(0, "of alike ones the first is told: by their first LAMPS", () -> {
            OwnLight x = town("g51..D..l101l301");
            due(x.shortest(0), 3);
            dueRow(x, 0, 0, 1);
            x = town("g51..D..l301l101");
            due(x.shortest(0), 3);
            dueRow(x, 0, 0, 1);
            x = town("g52 ..D.. ..... o201 o101 o301");
            due(x.shortest(0), 3);
            dueRow(x, 0, 1, 0, 2);
        });
        test(0, "of alike ones the first is told: then their second ones", () -> {
            OwnLight x = town(LED);
            due(x.shortest(0), 6);
            dueRow(x, 0, 2, 0, 1);
        });
    }

    private static void shortest() {
        test(27, "The fewest STEPS of an ORDER of all LAMPS; the first ORDER of so few comes to a ROW", () -> {
            OwnLight x = town(BARRED);
            due(x.shortest(0), 5);
            dueRow(x, 0, 1, 0);
            due(x.shortest(5), 5);
            dueRow(x, 5, 1, 0);
        });
        test(27, "The fewest STEPS: 0", () -> {
            OwnLight x = town("g51D....l001");
            due(x.shortest(0), 0);
            dueRow(x, 0, 0);
        });
        test(27, "an ORDER of all LAMPS: of none", () -> {
            OwnLight x = town(EMPTY);
            row(x, 0, 5, 5);
            due(x.shortest(0), 0);
            due(x.count(6), 1);
            found(x, BEYOND, () -> x.at(0, 0));
        });
        test(27, "an ORDER of all LAMPS: of six", () -> {
            OwnLight x = town("g61D.....o501o401o301o201o101o001");
            due(x.shortest(0), 5);
            dueRow(x, 0, 5, 4, 3, 2, 1, 0);
        });
        test(27, "(anew)", () -> {
            OwnLight x = town(FREE);
            x.row(0, 60);
            x.lay(0, 5, 7);
            due(x.shortest(0), 3);
            dueRow(x, 0, 0, 1);
            due(x.shortest(1), 3);
            dueRow(x, 1, 0, 1);
            due(x.count(6), 2);
        });
        test(27, "NONE: there is none, and the ROW stays as it is then", () -> {
            OwnLight x = town(RING);
            row(x, 0, 5, 6, 7);
            stays(x, NONE, () -> x.shortest(0));
            dueRow(x, 0, 5, 6, 7);
            OwnLight y = town(WALLED);
            stays(y, NONE, () -> y.shortest(0));
            found(y, NOTHING, () -> y.tear(0));
        });
        test(27, "BAD", () -> {
            OwnLight x = town(FREE);
            stays(x, BAD, () -> x.shortest(6));
            stays(x, BAD, () -> x.shortest(-1));
            stays(x, BAD, () -> x.shortest(LEAST));
        });
        test(27, "STATE: no CELLS", () -> {
            OwnLight x = new OwnLight();
            stays(x, STATE, () -> x.shortest(0));
        });
        test(27, "BAD ahead of STATE", () -> {
            OwnLight x = new OwnLight();
            stays(x, BAD, () -> x.shortest(6));
        });
        test(27, "from a ROUND's beginning; the ROUND stays", () -> {
            OwnLight x = town(BARRED);
            acts(x, RIGHT, LIGHT, RIGHT);
            due(x.shortest(0), 5);
            due(x, x.where(), 2, 3);
            due(x, x.may(), bits(RIGHT, LEFT), 1);
        });
    }

    private static void orders() {
        test(28, "How many ORDERS of all LAMPS there are, told by upper() (lower() is 1): 1", () -> {
            dueOrders(town(FREE), 2);
            dueOrders(town(LED), 2);
        });
        test(28, "How many: none", () -> {
            dueOrders(town(RING), 0);
            dueOrders(town(CUT), 0);
            dueOrders(town(SIX_RING), 0);
        });
        test(28, "How many: of no LAMPS there is one, of none", () -> dueOrders(town(EMPTY), 1));
        test(28, "How many: the most, of six LAMPS", () -> dueOrders(town(SIX), 720));
        test(28, "(lower() is 1): after another one, too", () -> {
            OwnLight x = town("g51D....l101o301o401");
            x.saw(2, 1);
            x.fits();
            dueFraction(x, 3, 4);
            dueOrders(x, 4);
        });
        test(28, "by the LAMPS that are SHADED now", () -> {
            OwnLight x = town(BARRED);
            dueOrders(x, 1);
            x.shade(0, 1);
            dueOrders(x, 2);
            x.shade(0, 0);
            dueOrders(x, 1);
        });
        test(28, "STATE: no CELLS", () -> {
            OwnLight x = new OwnLight();
            stays(x, STATE, x::orders);
        });
        test(28, "from a ROUND's beginning; the ROUND stays", () -> {
            OwnLight x = town(BARRED);
            acts(x, RIGHT, LIGHT);
            dueOrders(x, 1);
            due(x, x.lit(), 1, 0);
        });

        test(29, "LAMPS (bits) with which such an ORDER begins; those with which one ends by asked()", () -> {
            dueEnds(town(FREE), 3, 3);
            dueEnds(town(BARRED), 2, 1);
            dueEnds(town(LED), 4, 3);
            dueEnds(town(SIX), 63, 63);
        });
        test(29, "such an ORDER: there is none", () -> {
            dueEnds(town(RING), 0, 0);
            dueEnds(town(CUT), 0, 0);
        });
        test(29, "such an ORDER: of no LAMPS, of one", () -> {
            dueEnds(town(EMPTY), 0, 0);
            dueEnds(town("g51D....l201"), 1, 1);
        });
        test(29, "STATE: no CELLS", () -> {
            OwnLight x = new OwnLight();
            stays(x, STATE, x::first);
        });
        test(29, "from a ROUND's beginning", () -> {
            OwnLight x = town(BARRED);
            acts(x, RIGHT, LIGHT);
            dueEnds(x, 2, 1);
        });
    }

    private static void dueEnds(OwnLight x, int begin, int end) {
        due(x, x.first(), begin, end);
    }

    private static void bars() {
        test(30, "LAMPS (bits) on whose CELLS a LAMP shines; those that shine on its own CELL by asked()", () -> {
            OwnLight x = town(BARRED);
            due(x, x.bars(0), 2, 0);
            due(x, x.bars(1), 0, 1);
            OwnLight y = town(LED);
            due(y, y.bars(0), 4, 0);
            due(y, y.bars(1), 4, 0);
            due(y, y.bars(2), 0, 3);
        });
        test(30, "(its own aside)", () -> {
            OwnLight x = town("g51D....l201");
            due(x, x.bars(0), 0, 0);
        });
        test(30, "LAMPS: all others", () -> {
            OwnLight x = town("g61D.....l005l105l205l305l405l505");
            due(x, x.bars(0), 62, 62);
            due(x, x.bars(5), 31, 31);
            due(x, x.bars(2), 59, 59);
        });
        test(30, "on whose CELLS a LAMP shines: a SHADED one on none", () -> {
            OwnLight x = town(RING);
            x.shade(1, 1);
            due(x, x.bars(0), 2, 0);
            due(x, x.bars(1), 0, 1);
        });
        test(30, "BAD", () -> {
            OwnLight x = town(BARRED);
            stays(x, BAD, () -> x.bars(2));
            stays(x, BAD, () -> x.bars(-1));
            stays(x, BAD, () -> x.bars(8));
            stays(x, BAD, () -> x.bars(MOST));
            OwnLight y = new OwnLight();
            stays(y, BAD, () -> y.bars(0));
        });
    }

    private static void rings() {
        test(31, "LAMPS (bits) that are in a ring; how many there are in the smallest ring by asked()", () -> {
            OwnLight x = town(RING);
            due(x, x.rings(), 3, 2);
            OwnLight y = town(BETWEEN);
            due(y, y.rings(), 7, 2);
        });
        test(31, "in a ring: of four, of all six", () -> {
            OwnLight x = town("g43 .... .D.. .... h003 l302 h323 l022");
            due(x, x.rings(), 15, 4);
            OwnLight y = town(SIX_RING);
            due(y, y.rings(), 63, 6);
        });
        test(31, "the smallest ring, of two", () -> {
            OwnLight x = town("g44 .... .D.. .... .... h003 l302 h323 l022 h031 h131");
            due(x, x.rings(), 63, 2);
        });
        test(31, "(0: there is none)", () -> {
            OwnLight x = town(BARRED);
            due(x, x.rings(), 0, 0);
            OwnLight y = town(SIX);
            due(y, y.rings(), 0, 0);
        });
        test(31, "(0: there is none): a LAMP by itself is no ring", () -> {
            OwnLight x = town("g21D.l001");
            due(x, x.rings(), 0, 0);
        });
        test(31, "not in a ring: one ahead of a ring, one behind", () -> {
            OwnLight x = town("g61D.....l001l202l402");
            due(x, x.rings(), 6, 2);
            OwnLight y = town("g61D.....h103h301h401");
            due(y, y.rings(), 6, 2);
        });
        test(31, "in a ring: not SHADED ones", () -> {
            OwnLight x = town(RING);
            x.shade(0, 1);
            due(x, x.rings(), 0, 0);
            x.shade(0, 0);
            due(x, x.rings(), 3, 2);
        });
        test(31, "(0: there is none): without LAMPS, without CELLS", () -> {
            OwnLight x = town(EMPTY);
            due(x, x.rings(), 0, 0);
            OwnLight y = new OwnLight();
            due(y, y.rings(), 0, 0);
        });
    }

    private static void dark() {
        test(32, "The fewest LAMPS to leave dark, so that there is an ORDER of all others", () -> {
            OwnLight x = town(CUT);
            due(x, x.dark(), 1, 2);
            OwnLight y = town("g51D.#..l401l101");
            due(y, y.dark(), 1, 1);
        });
        test(32, "The fewest: none", () -> {
            for (String none : new String[] {FREE, BARRED, SIX, EMPTY}) {
                OwnLight x = town(none);
                due(x, x.dark(), 0, 0);
            }
        });
        test(32, "The fewest: all", () -> {
            OwnLight x = town(WALLED);
            due(x, x.dark(), 2, 3);
            OwnLight y = town("g61D#....o201o301o401o501");
            due(y, y.dark(), 4, 15);
        });
        test(32, "The fewest, though others have the lesser bits", () -> {
            OwnLight x = town(BETWEEN);
            due(x, x.dark(), 1, 4);
        });
        test(32, "which (bits; the least)", () -> {
            OwnLight x = town(RING);
            due(x, x.dark(), 1, 1);
            OwnLight y = town("g61D.....o401l102l302");
            due(y, y.dark(), 1, 2);
        });
        test(32, "by the LAMPS that are SHADED now", () -> {
            OwnLight x = town(RING);
            x.shade(1, 1);
            due(x, x.dark(), 0, 0);
        });
        test(32, "STATE: no CELLS", () -> {
            OwnLight x = new OwnLight();
            stays(x, STATE, x::dark);
        });
    }

    private static void bright() {
        test(33, "The most CELLS that can be bright by an ORDER of some LAMPS; which LAMPS", () -> {
            OwnLight x = town(FREE);
            due(x, x.bright(), 5, 3);
            OwnLight y = town(CUT);
            due(y, y.bright(), 2, 1);
        });
        test(33, "The most CELLS: none, as no LAMP can be lit", () -> {
            OwnLight x = town(WALLED);
            due(x, x.bright(), 0, 0);
        });
        test(33, "The most CELLS: none, as there are no LAMPS", () -> {
            OwnLight x = town(EMPTY);
            due(x, x.bright(), 0, 0);
        });
        test(33, "The most CELLS: one", () -> {
            OwnLight x = town("g51D#...o001o401");
            due(x, x.bright(), 1, 1);
        });
        test(33, "The most CELLS: all 24", () -> {
            OwnLight x = town("g64 D..... ...... ...... ...... b225");
            due(x, x.bright(), 24, 1);
        });
        test(33, "by an ORDER: not by LAMPS that can't all be lit", () -> {
            OwnLight x = town(RING);
            due(x, x.bright(), 4, 1);
        });
        test(33, "(bits; the fewest ..", () -> {
            OwnLight x = town("g51D....f102o404");
            due(x, x.bright(), 5, 1);
            OwnLight y = town("g51D....o404o001f103");
            due(y, y.bright(), 5, 4);
        });
        test(33, ".. then the least)", () -> {
            OwnLight x = town("g51D....l404l303l104");
            due(x, x.bright(), 5, 1);
            OwnLight y = town("g61D.....h101h201o501");
            due(y, y.bright(), 4, 5);
        });
        test(33, "by the LAMPS that are SHADED now", () -> {
            OwnLight x = town(FREE);
            x.shade(0, 1);
            due(x, x.bright(), 4, 3);
        });
        test(33, "STATE: no CELLS", () -> {
            OwnLight x = new OwnLight();
            stays(x, STATE, x::bright);
        });
    }

    private static void shades() {
        test(34, "The fewest LAMPS more to be SHADED, so that there is an ORDER of all; which", () -> {
            OwnLight x = town("g51D....l101l201l301l401");
            due(x, x.shades(), 3, 7);
        });
        test(34, "The fewest LAMPS more: none", () -> {
            for (String none : new String[] {FREE, BARRED, SIX, EMPTY}) {
                OwnLight x = town(none);
                due(x, x.shades(), 0, 0);
            }
        });
        test(34, "The fewest, though others have the lesser bits", () -> {
            OwnLight x = town(BETWEEN);
            due(x, x.shades(), 1, 4);
        });
        test(34, "(bits; the least)", () -> {
            OwnLight x = town(RING);
            due(x, x.shades(), 1, 1);
            OwnLight y = town("g61D.....o401l102l302");
            due(y, y.shades(), 1, 2);
        });
        test(34, "LAMPS more: not those that are SHADED", () -> {
            OwnLight x = town("g51D....l101l201l301l401");
            x.shade(1, 1);
            due(x, x.shades(), 2, 5);
            x.shade(0, 1);
            x.shade(2, 1);
            due(x, x.shades(), 0, 0);
            OwnLight y = town(RING);
            y.shade(1, 1);
            due(y, y.shades(), 0, 0);
        });
        test(34, "to be SHADED: none is by this", () -> {
            OwnLight x = town(RING);
            long before = x.digest();
            due(x, x.shades(), 1, 1);
            due(x.digest(), before);
            due(x.count(3), 0);
            dueOrders(x, 0);
            due(x.shines(0), bits(0, 1, 2, 3));
        });
        test(34, "NONE: never", () -> {
            OwnLight x = town(CUT);
            x.cell(1);
            stays(x, NONE, x::shades);
            x.shade(1, 1);
            x.shade(0, 1);
            stays(x, NONE, x::shades);
        });
        test(34, "STATE: no CELLS", () -> {
            OwnLight x = new OwnLight();
            stays(x, STATE, x::shades);
        });
    }

    private static void two() {
        test(35, "the fewest STEPS of both together; which the first one lights", () -> {
            OwnLight x = town(FREE);
            due(x, x.two(3), 1, 1);
            due(x, x.two(4), 2, 1);
            OwnLight y = town(CUT);
            due(y, y.two(3), 2, 1);
        });
        test(35, "the first one lights some LAMPS (or none)", () -> {
            OwnLight x = town(WALLED);
            due(x, x.two(2), 2, 0);
            OwnLight y = town(FREE);
            due(y, y.two(0), 3, 0);
        });
        test(35, "the second one all others (or none)", () -> {
            OwnLight x = town("g51D....l101");
            due(x, x.two(4), 1, 1);
        });
        test(35, "both none: there are no LAMPS", () -> {
            OwnLight x = town(EMPTY);
            due(x, x.two(0), 0, 0);
        });
        test(35, "0 STEPS", () -> {
            OwnLight x = town("g51D....o001o401");
            due(x, x.two(4), 0, 1);
            OwnLight y = town("g51D....l001");
            due(y, y.two(0), 0, 0);
        });
        test(35, "where a LAMP of the first one's shines he may neither walk ..", () -> {
            OwnLight x = town("g52 ##D## ..... l201 o111");
            due(x, x.two(8), 2, 3);
        });
        test(35, ".. nor stand at first", () -> {
            OwnLight x = town("g51D....l101l401");
            due(x, x.two(2), 4, 0);
        });
        test(35, "(if there is any to light): else he may stand in it", () -> {
            OwnLight x = town("g51D....l102");
            due(x, x.two(3), 1, 1);
        });
        test(35, "by the same rules: his own light while he is INSIDE", () -> {
            OwnLight x = town("g61#.D...l301l501");
            due(x, x.two(2), 3, 0);
            OwnLight y = town("g61D#....l201l401");
            due(y, y.two(2), 2, 0);
        });
        test(35, "by the same rules: his own LAMPS bar one another", () -> {
            OwnLight x = town("g61D#....l202l401");
            due(x, x.two(2), 4, 0);
            OwnLight y = town("g61D#....l202l402");
            stays(y, NONE, () -> y.two(2));
        });
        test(35, "(bits; the fewest ..", () -> {
            OwnLight x = town("g51..D..o301o401o001");
            due(x, x.two(2), 4, 4);
        });
        test(35, ".. then the least)", () -> {
            OwnLight x = town("g51..D..o301o101");
            due(x, x.two(2), 2, 1);
            OwnLight y = town("g61...D..o501o401o001o201");
            due(y, y.two(3), 5, 3);
        });
        test(35, "NONE: never", () -> {
            OwnLight x = town(RING);
            x.cell(3);
            stays(x, NONE, () -> x.two(4));
            stays(x, NONE, () -> x.two(0));
            OwnLight y = town(WALLED);
            stays(y, NONE, () -> y.two(0));
        });
        test(35, "BAD", () -> {
            OwnLight x = town(FREE);
            stays(x, BAD, () -> x.two(5));
            stays(x, BAD, () -> x.two(-1));
            stays(x, BAD, () -> x.two(32));
            stays(x, BAD, () -> x.two(LEAST));
        });
        test(35, "BAD: also a wall", () -> {
            OwnLight x = town(CUT);
            stays(x, BAD, () -> x.two(2));
        });
        test(35, "BAD: there are no CELLS", () -> {
            OwnLight x = new OwnLight();
            stays(x, BAD, () -> x.two(0));
        });
        test(35, "from a ROUND's beginning; the ROUND stays", () -> {
            OwnLight x = town(FREE);
            acts(x, RIGHT, LIGHT, RIGHT);
            due(x, x.two(3), 1, 1);
            due(x, x.lit(), 1, 0);
            due(x, x.where(), 2, 3);
        });
    }

    public static void main(String[] args) {
        terms();
        shortest();
        orders();
        bars();
        rings();
        dark();
        bright();
        shades();
        two();
        end();
    }
}
