/** The boundary cases that promises 36 to 42 name: thieves, who saw, dawn, lots. */
public final class ThievesTest extends Checks {
    private static final String FREE = "g51 D.... l101 l301";
    private static final String RING = "g51 D.... l102 l302";
    private static final String EMPTY = "g32 .D. #..";
    /** Four ORDERS: 0 1 2, 0 2 1, 2 0 1, 2 1 0. */
    private static final String FOUR = "g51 D.... l101 o301 o401";
    private static final String ONE = "g31 D.. l101";

    private static void thieves() {
        test(36, "CELLS (bits) to which a thief comes from a CELL; how many by asked()", () -> {
            OwnLight x = town(FREE);
            due(x, x.thief(0, 2), bits(0, 1), 2);
            due(x, x.thief(4, 1), bits(3, 4), 2);
            due(x, x.thief(3, 1), bits(3, 4), 2);
        });
        test(36, "LAMPS of a set: an empty one, so all streets to which one comes", () -> {
            OwnLight x = town("g64 D..... ...... ...... ......");
            due(x, x.thief(13, 0), (1 << 24) - 1, 24);
            OwnLight y = town("g33 D.# .#. #.. ");
            due(y, y.thief(0, 0), bits(0, 1, 3), 3);
            due(y, y.thief(8, 0), bits(5, 7, 8), 3);
        });
        test(36, "to which a thief comes: not over the town's ends", () -> {
            OwnLight x = town("g32 D#. .#.");
            due(x, x.thief(0, 0), bits(0, 3), 2);
            due(x, x.thief(2, 0), bits(2, 5), 2);
            OwnLight y = town("g22.D..");
            due(y, y.thief(1, 0), 15, 4);
            OwnLight z = town("g24 .D .# #. ..");
            due(z, z.thief(2, 0), bits(0, 1, 2), 3);
            due(z, z.thief(5, 0), bits(5, 6, 7), 3);
        });
        test(36, "(in light: none)", () -> {
            OwnLight x = town(FREE);
            due(x, x.thief(0, 1), 0, 0);
            due(x, x.thief(2, 2), 0, 0);
            due(x, x.thief(4, 3), 0, 0);
        });
        test(36, "(a wall: none)", () -> {
            OwnLight x = town(EMPTY);
            due(x, x.thief(0, 0), bits(0, 1, 2, 4, 5), 5);
            due(x, x.thief(3, 0), 0, 0);
        });
        test(36, "who never is in light: SHADED ones shine on their own CELL", () -> {
            OwnLight x = town(FREE);
            x.shade(0, 1);
            due(x, x.thief(0, 1), bits(0), 1);
            due(x, x.thief(2, 1), bits(2, 3, 4), 3);
            due(x, x.thief(1, 1), 0, 0);
        });
        test(36, "where LAMPS of a set are lit: no matter which are lit in the ROUND", () -> {
            OwnLight x = town(FREE);
            acts(x, RIGHT, LIGHT);
            due(x, x.thief(0, 0), 31, 5);
            due(x, x.lit(), 1, 0);
        });
        test(36, "BAD: a CELL that is none", () -> {
            OwnLight x = town(FREE);
            stays(x, BAD, () -> x.thief(5, 0));
            stays(x, BAD, () -> x.thief(-1, 0));
            stays(x, BAD, () -> x.thief(32, 0));
            OwnLight y = new OwnLight();
            stays(y, BAD, () -> y.thief(0, 0));
        });
        test(36, "BAD: a set of LAMPS that are none", () -> {
            OwnLight x = town(FREE);
            stays(x, BAD, () -> x.thief(0, 4));
            stays(x, BAD, () -> x.thief(0, -1));
            stays(x, BAD, () -> x.thief(0, LEAST));
            OwnLight y = town(EMPTY);
            stays(y, BAD, () -> y.thief(0, 1));
            stays(y, BAD, () -> y.thief(3, 1));
        });
    }

    private static void sightings() {
        test(37, "SEEN: LAMP j was lit ahead of LAMP k: its number", () -> {
            OwnLight x = town(FREE);
            due(x.saw(0, 1), 0);
            due(x.saw(1, 0), 1);
            due(x.saw(0, 1), 2);
            due(x.count(8), 3);
        });
        test(37, "BAD: a LAMP that is none", () -> {
            OwnLight x = town(FREE);
            stays(x, BAD, () -> x.saw(2, 0));
            stays(x, BAD, () -> x.saw(0, 2));
            stays(x, BAD, () -> x.saw(-1, 0));
            stays(x, BAD, () -> x.saw(0, -1));
            OwnLight y = new OwnLight();
            stays(y, BAD, () -> y.saw(0, 1));
        });
        test(37, "BAD: also alike", () -> {
            OwnLight x = town(FREE);
            stays(x, BAD, () -> x.saw(0, 0));
            stays(x, BAD, () -> x.saw(1, 1));
        });
        test(37, "FULL: 8", () -> {
            OwnLight x = town(FREE);
            for (int i = 0; i < 8; i++) {
                due(x.saw(i % 2, 1 - i % 2), i);
            }
            stays(x, FULL, () -> x.saw(0, 1));
            x.forget(7);
            due(x.saw(1, 0), 7);
            stays(x, FULL, () -> x.saw(1, 0));
        });
        test(37, "BAD ahead of FULL", () -> {
            OwnLight x = town(FREE);
            for (int i = 0; i < 8; i++) {
                x.saw(0, 1);
            }
            stays(x, BAD, () -> x.saw(0, 0));
            stays(x, BAD, () -> x.saw(0, 2));
        });

        test(38, "What was SEEN from number n on goes: how many", () -> {
            OwnLight x = town(FOUR);
            x.saw(2, 1);
            x.saw(1, 0);
            x.saw(0, 2);
            due(x.fits(), 0);
            due(x.forget(2), 1);
            due(x.fits(), 1);
            due(x.forget(1), 1);
            due(x.fits(), 3);
            due(x.count(8), 1);
            due(x.saw(0, 2), 1);
        });
        test(38, "n 0: all", () -> {
            OwnLight x = town(FOUR);
            for (int i = 0; i < 8; i++) {
                x.saw(0, 1);
            }
            due(x.forget(0), 8);
            due(x.count(8), 0);
            due(x.saw(0, 1), 0);
        });
        test(38, "n how many there are: then 0", () -> {
            OwnLight x = town(FOUR);
            x.saw(0, 1);
            x.saw(1, 2);
            stays(x, 0, () -> x.forget(2));
            OwnLight y = town(FOUR);
            stays(y, 0, () -> y.forget(0));
            OwnLight z = new OwnLight();
            stays(z, 0, () -> z.forget(0));
        });
        test(38, "BAD", () -> {
            OwnLight x = town(FOUR);
            x.saw(0, 1);
            x.saw(1, 2);
            stays(x, BAD, () -> x.forget(3));
            stays(x, BAD, () -> x.forget(-1));
            stays(x, BAD, () -> x.forget(8));
            stays(x, BAD, () -> x.forget(LEAST));
            OwnLight y = new OwnLight();
            stays(y, BAD, () -> y.forget(1));
        });
    }

    private static void fits() {
        test(39, "How many ORDERS of all LAMPS fit all that was SEEN, of all, told by upper(), lower(): how many", () -> {
            OwnLight x = town(FOUR);
            x.saw(2, 1);
            due(x.fits(), 3);
            dueFraction(x, 3, 4);
            x.saw(1, 0);
            due(x.fits(), 1);
            dueFraction(x, 1, 4);
        });
        test(39, "in lowest terms", () -> {
            OwnLight x = town(FOUR);
            x.saw(0, 2);
            due(x.fits(), 2);
            dueFraction(x, 1, 2);
            OwnLight y = town("g64 D..... ...... ...... ...... o001o501o031o531o221o311");
            y.saw(0, 1);
            y.saw(1, 2);
            y.saw(3, 4);
            due(y.fits(), 60);
            dueFraction(y, 1, 12);
        });
        test(39, "what was SEEN: nothing, so all fit", () -> {
            OwnLight x = town(FOUR);
            due(x.fits(), 4);
            dueFraction(x, 1, 1);
        });
        test(39, "all that was SEEN: one pair told twice counts once", () -> {
            OwnLight x = town(FOUR);
            x.saw(2, 1);
            x.saw(2, 1);
            due(x.fits(), 3);
        });
        test(39, "all that was SEEN: eight", () -> {
            OwnLight x = town(FOUR);
            for (int i = 0; i < 7; i++) {
                x.saw(2, 1);
            }
            due(x.fits(), 3);
            x.saw(1, 0);
            due(x.fits(), 1);
        });
        test(39, "(0 by 1): none fits", () -> {
            OwnLight x = town(FOUR);
            x.saw(0, 1);
            x.saw(1, 0);
            due(x.fits(), 0);
            dueFraction(x, 0, 1);
        });
        test(39, "ORDERS of all LAMPS: of none", () -> {
            OwnLight x = town(EMPTY);
            due(x.fits(), 1);
            dueFraction(x, 1, 1);
        });
        test(39, "STATE: no CELLS", () -> {
            OwnLight x = new OwnLight();
            stays(x, STATE, x::fits);
        });
        test(39, "NOUGHT: there is no ORDER of all", () -> {
            OwnLight x = withText(town(FOUR), 1, RING);
            x.saw(0, 2);
            x.fits();
            x.town(1);
            found(x, NOUGHT, x::fits);
            x.saw(0, 1);
            found(x, NOUGHT, x::fits);
            dueFraction(x, 1, 2);
        });

        test(40, "1 surely, 0 surely not, 2 it can be either way", () -> {
            OwnLight x = town(FOUR);
            due(x.sure(0, 1), 2);
            due(x.sure(2, 1), 2);
            x.saw(2, 1);
            due(x.sure(2, 1), 1);
            due(x.sure(1, 2), 0);
            due(x.sure(0, 1), 2);
            x.saw(1, 0);
            due(x.sure(2, 0), 1);
            due(x.sure(0, 2), 0);
        });
        test(40, "surely, with nothing SEEN", () -> {
            OwnLight x = town("g51 D.... l102 l301");
            due(x.sure(1, 0), 1);
            due(x.sure(0, 1), 0);
        });
        test(40, "nothing is SEEN by this", () -> {
            OwnLight x = town(FOUR);
            stays(x, 2, () -> x.sure(0, 1));
            due(x.fits(), 4);
        });
        test(40, "BAD: a LAMP that is none", () -> {
            OwnLight x = town(FOUR);
            stays(x, BAD, () -> x.sure(3, 0));
            stays(x, BAD, () -> x.sure(0, 3));
            stays(x, BAD, () -> x.sure(-1, 0));
            stays(x, BAD, () -> x.sure(0, -1));
            OwnLight y = new OwnLight();
            stays(y, BAD, () -> y.sure(0, 1));
        });
        test(40, "BAD: also alike", () -> {
            OwnLight x = town(FOUR);
            stays(x, BAD, () -> x.sure(0, 0));
            stays(x, BAD, () -> x.sure(2, 2));
        });
        test(40, "NOUGHT: none fits", () -> {
            OwnLight x = town(FOUR);
            x.saw(0, 1);
            x.saw(1, 0);
            found(x, NOUGHT, () -> x.sure(0, 2));
            found(x, NOUGHT, () -> x.sure(0, 1));
            OwnLight y = town(RING);
            found(y, NOUGHT, () -> y.sure(0, 1));
        });
        test(40, "BAD ahead of NOUGHT", () -> {
            OwnLight x = town(RING);
            stays(x, BAD, () -> x.sure(0, 0));
            stays(x, BAD, () -> x.sure(0, 2));
        });
    }

    private static void dawn() {
        test(41, "the fewest STEPS till all are out; with which he begins by asked()", () -> {
            OwnLight x = town("g61D.....l301l101h501");
            due(x, x.dawn(), 4, 1);
        });
        test(41, "the fewest STEPS: 0, of one LAMP", () -> {
            OwnLight x = town(ONE);
            due(x, x.dawn(), 0, 0);
            x.shade(0, 1);
            due(x, x.dawn(), 0, 0);
        });
        test(41, "the fewest STEPS: of six LAMPS", () -> {
            OwnLight x = town("g61D.....o501o401o301o201o101o001");
            due(x, x.dawn(), 5, 0);
            OwnLight y = town("g61D.....o301o401o501o201o101o001");
            due(y, y.dawn(), 5, 2);
        });
        test(41, "walks where a LAMP shines that is not put out", () -> {
            OwnLight x = town("g61D.....o401l103");
            due(x, x.dawn(), 3, 0);
            OwnLight y = town("g61D.....o501l103");
            due(y, y.dawn(), 4, 0);
            OwnLight z = town("g61D.....o501l102");
            stays(z, NONE, z::dawn);
        });
        test(41, "or, till he leaves its light, the one put out last", () -> {
            OwnLight x = town("g61D.....l003o401");
            due(x, x.dawn(), 4, 0);
            OwnLight y = town("g61D.....l002o401");
            stays(y, NONE, y::dawn);
            OwnLight z = town("g51D....o001l202o401");
            due(z, z.dawn(), 4, 0);
            OwnLight w = town("g61D.....o001o501o401f203");
            due(w, w.dawn(), 5, 0);
        });
        test(41, "the fewest STEPS: along a long way", () -> {
            OwnLight x = town("g64 D#...# .#.#.# .#.#.# ...#.. o531 c005 c205 c415");
            due(x, x.dawn(), 14, 0);
        });
        test(41, "the one put out last: not one put out ahead of it", () -> {
            // CELL 2 is lit by LAMP 0 alone: if LAMP 1 is put out behind it, there is no way on
            OwnLight x = town("g44 D... ###. ###. ###. l003 o101 o301 o321 l333");
            due(x, x.dawn(), 7, 1);
        });
        test(41, "he puts out a LAMP in whose CELL he stands: not one beside it", () -> {
            OwnLight x = town("g51D....l101l201");
            due(x, x.dawn(), 1, 0);
        });
        test(41, "(the first)", () -> {
            OwnLight x = town("g61D.....h501l101l301");
            due(x, x.dawn(), 4, 0);
            OwnLight y = town("g51D....l301l101");
            due(y, y.dawn(), 2, 0);
        });
        test(41, "all LAMPS are lit: no matter which are in the ROUND", () -> {
            OwnLight x = town("g51D....l301l101");
            acts(x, RIGHT, LIGHT);
            due(x, x.dawn(), 2, 0);
            due(x, x.lit(), 2, 1);
        });
        test(41, "where a LAMP shines: SHADED ones on their own CELL", () -> {
            OwnLight x = town("g51D....l301l101");
            x.shade(0, 1);
            due(x, x.dawn(), 2, 0);
            x.shade(1, 1);
            stays(x, NONE, x::dawn);
        });
        test(41, "NONE: never", () -> {
            OwnLight x = town("g61D.....l001l501");
            x.cell(3);
            stays(x, NONE, x::dawn);
            OwnLight y = town("g51D.#..l105l405");
            stays(y, NONE, y::dawn);
        });
        test(41, "STATE: there are no LAMPS", () -> {
            OwnLight x = town(EMPTY);
            stays(x, STATE, x::dawn);
            OwnLight y = new OwnLight();
            stays(y, STATE, y::dawn);
        });
    }

    /** What lots() is due to tell, by what may() and act() answer: how many LAMPS, how often. */
    private static int[] drawn(String town, int n, int seed) {
        OwnLight x = town(town);
        long lot = seed;
        int done = 0;
        int may = x.may();
        while (done < n && may != 0) {
            lot = lot * 48271 % 2147483647;
            int number = (int) (lot % Integer.bitCount(may));
            int what = 0;
            while ((may >> what & 1) == 0 || number-- > 0) {
                what++;
            }
            x.act(what);
            done++;
            may = x.may();
        }
        return new int[] {x.count(2), done};
    }

    private static void lots() {
        test(42, "how many LAMPS are lit then; how often he did something by asked()", () -> {
            OwnLight x = town(ONE);
            due(x, x.lots(5, 1), 0, 5);
            due(x, x.lots(6, 1), 1, 6);
        });
        test(42, "n (1 .. 200) times: 1", () -> {
            OwnLight x = town("g21D#l001");
            due(x, x.lots(1, 1), 1, 1);
            OwnLight y = town(ONE);
            due(y, y.lots(1, 1), 0, 1);
        });
        test(42, "n (1 .. 200) times: 200", () -> {
            OwnLight x = town("g21D.");
            due(x, x.lots(200, 1), 0, 200);
            due(x, x.lots(199, 1), 0, 199);
        });
        test(42, "48271 times it modulo 2147483647, which an int can't hold", () -> {
            OwnLight x = town(ONE);
            due(x, x.lots(5, 2147483646), 0, 5);
            due(x, x.lots(6, 2147483646), 1, 6);
            String town = "g64 ...... ..D#.. .#.... ...... l002 f501 c031 h532 o321 b421";
            OwnLight y = town(town);
            for (int seed : new int[] {1, 2, 44488, 123456789, 2147483645, 2147483646}) {
                for (int n : new int[] {1, 2, 7, 40, 199, 200}) {
                    int[] drawn = drawn(town, n, seed);
                    due(y, y.lots(n, seed), drawn[0], drawn[1]);
                }
            }
        });
        test(42, "until there is none", () -> {
            OwnLight x = town("g21D#l001");
            due(x, x.lots(200, 7), 1, 1);
        });
        test(42, "until there is none: at first", () -> {
            OwnLight x = town("g21#D");
            due(x, x.lots(200, 1), 0, 0);
        });
        test(42, "from the DOOR; (The ROUND stays.)", () -> {
            OwnLight x = town(ONE);
            acts(x, RIGHT, RIGHT);
            due(x, x.lots(6, 1), 1, 6);
            due(x, x.where(), 2, 2);
            due(x, x.lit(), 0, NONE);
            acts(x, LEFT, LIGHT);
            due(x, x.lots(5, 1), 0, 5);
            due(x, x.lit(), 1, 0);
            due(x, x.may(), bits(RIGHT, LEFT), 1);
        });
        test(42, "from the DOOR: whatever was judged or drawn ahead", () -> {
            OwnLight x = town("g31D..o001");
            row(x, 0, LIGHT);
            due(x, x.judge(0), 1, 1);
            due(x, x.lots(1, 2), 0, 1);
            due(x, x.lots(1, 1), 1, 1);
            due(x, x.lots(1, 2), 0, 1);
            due(x, x.judge(0), 1, 1);
        });
        test(42, "BAD: n", () -> {
            OwnLight x = town(ONE);
            stays(x, BAD, () -> x.lots(0, 1));
            stays(x, BAD, () -> x.lots(201, 1));
            stays(x, BAD, () -> x.lots(-1, 1));
            stays(x, BAD, () -> x.lots(MOST, 1));
        });
        test(42, "BAD: a seed", () -> {
            OwnLight x = town(ONE);
            stays(x, BAD, () -> x.lots(1, 0));
            stays(x, BAD, () -> x.lots(1, 2147483647));
            stays(x, BAD, () -> x.lots(1, -1));
            stays(x, BAD, () -> x.lots(1, LEAST));
        });
        test(42, "STATE: no CELLS", () -> {
            OwnLight x = new OwnLight();
            stays(x, STATE, () -> x.lots(1, 1));
            stays(x, STATE, () -> x.lots(200, 2147483646));
        });
        test(42, "BAD ahead of STATE", () -> {
            OwnLight x = new OwnLight();
            stays(x, BAD, () -> x.lots(0, 1));
            stays(x, BAD, () -> x.lots(1, 0));
        });
    }

    public static void main(String[] args) {
        thieves();
        sightings();
        fits();
        dawn();
        lots();
        end();
    }
}
