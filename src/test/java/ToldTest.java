import java.util.function.IntSupplier;

/** The boundary cases that promises 43 to 49 and "ANSWERS" of the Terms name: what is told beside the answers. */
public final class ToldTest extends Checks {
    /** Four ORDERS: 0 1 2, 0 2 1, 2 0 1, 2 1 0. */
    private static final String FOUR = "g51 D.... l101 o301 o401";
    private static final String KINDS = "g63 D..... ..#... ...... l202 f221 c112 h412 o523 b001";
    private static final int MARK = 777;

    /** A TOWN with ROW 0 of MARK, ROW 1 of 9, an empty ROW 2. */
    private static OwnLight marked() {
        OwnLight x = town(FOUR);
        row(x, 0, MARK);
        row(x, 1, 9);
        x.row(2, 0);
        return x;
    }

    private static void tells(OwnLight x, IntSupplier call, int told) {
        due(x, x.at(0, 0), 1, MARK);
        call.getAsInt();
        due(x.asked(), told);
    }

    private static void answers() {
        test(0, "BAD, FULL, FINDING, STATE, SPENT, NONE", () -> {
            due(OwnLight.BAD, BAD);
            due(OwnLight.FULL, FULL);
            due(OwnLight.FINDING, FINDING);
            due(OwnLight.STATE, STATE);
            due(OwnLight.SPENT, SPENT);
            due(OwnLight.NONE, NONE);
        });
        test(0, "the first of these that fits, in this order", () -> {
            OwnLight x = town(FOUR);
            for (int i = 0; i < 8; i++) {
                x.saw(0, 1);
            }
            stays(x, BAD, () -> x.saw(1, 1));
            OwnLight y = new OwnLight();
            stays(y, BAD, () -> y.judge(6));
            stays(y, STATE, () -> y.judge(0));
        });
        test(0, "What is refused changes nothing but finding(), findings()", () -> {
            OwnLight x = marked();
            x.saw(2, 1);
            x.fits();
            x.shade(1, 1);
            x.keep(1);
            acts(x, RIGHT, LIGHT, RIGHT);
            stays(x, BAD, () -> x.row(0, 61));
            stays(x, STATE, () -> x.act(LIGHT));
            found(x, BEYOND, () -> x.lay(0, 1, 5));
            found(x, SIZE, () -> x.text(0, -1));
            due(x.asked(), 0);
        });
    }

    private static void asked() {
        test(43, "What the latest lay(), at(), mean() told", () -> {
            OwnLight x = marked();
            tells(x, () -> x.lay(1, 0, 6), 9);
            tells(x, () -> x.at(1, 0), 6);
            tells(x, () -> x.mean(1), 6);
        });
        test(43, "What the latest cell(), lamp(), light() told", () -> {
            OwnLight x = marked();
            tells(x, () -> x.cell(0), NONE);
            tells(x, () -> x.cell(4), 2);
            tells(x, () -> x.lamp(1, 1), 3);
            tells(x, () -> x.light(3), 4);
        });
        test(43, "What the latest may(), where(), lit(), judge() told", () -> {
            OwnLight x = marked();
            acts(x, RIGHT, LIGHT);
            tells(x, x::may, 1);
            tells(x, x::where, 2);
            tells(x, x::lit, 0);
            tells(x, () -> x.judge(2), 1);
        });
        test(43, "What the latest first(), bars(), rings(), dark(), bright(), shades() told", () -> {
            OwnLight x = marked();
            tells(x, x::first, 7);
            tells(x, () -> x.bars(0), 0);
            tells(x, x::rings, 0);
            tells(x, x::dark, 0);
            tells(x, x::bright, 7);
            tells(x, x::shades, 0);
        });
        test(43, "What the latest two(), thief(), dawn(), lots() told", () -> {
            OwnLight x = marked();
            tells(x, () -> x.two(4), 1);
            tells(x, () -> x.thief(0, 4), 4);
            tells(x, x::dawn, 0);
            tells(x, () -> x.lots(3, 1), 3);
        });
        test(43, "the latest: not row(), tear(), copy(), text(), put(), fault(), town()", () -> {
            OwnLight x = withText(marked(), 1, "g21D.l001");
            tells(x, () -> x.row(3, 5), MARK);
            tells(x, () -> x.copy(1, 0, 3, 2, 1), MARK);
            tells(x, () -> x.tear(3), MARK);
            tells(x, () -> x.text(2, 5), MARK);
            tells(x, () -> x.put(2, 0, 5), MARK);
            tells(x, () -> x.fault(2), MARK);
            tells(x, () -> x.town(1), MARK);
        });
        test(43, "the latest: not mark(), shines(), shade(), begin(), act(), undo(), keep(), on()", () -> {
            OwnLight x = marked();
            tells(x, () -> x.mark(1, 4), MARK);
            tells(x, () -> x.shines(0), MARK);
            tells(x, () -> x.shade(1, 1), MARK);
            tells(x, x::begin, MARK);
            tells(x, () -> x.act(RIGHT), MARK);
            tells(x, () -> x.act(LIGHT), MARK);
            tells(x, () -> x.undo(1), MARK);
            tells(x, () -> x.keep(0), MARK);
            tells(x, () -> x.on(0), MARK);
        });
        test(43, "the latest: not shortest(), orders(), saw(), forget(), fits(), sure()", () -> {
            OwnLight x = marked();
            tells(x, () -> x.shortest(4), MARK);
            tells(x, x::orders, MARK);
            tells(x, () -> x.saw(2, 1), MARK);
            tells(x, x::fits, MARK);
            tells(x, () -> x.sure(0, 1), MARK);
            tells(x, () -> x.forget(0), MARK);
        });
        test(43, "the latest: not upper(), lower(), count(), finding(), findings(), digest(), itself", () -> {
            OwnLight x = marked();
            tells(x, () -> (int) x.upper(), MARK);
            tells(x, () -> (int) x.lower(), MARK);
            tells(x, () -> x.count(0), MARK);
            tells(x, x::finding, MARK);
            tells(x, () -> x.findings(1), MARK);
            tells(x, () -> (int) x.digest(), MARK);
            tells(x, x::asked, MARK);
        });
        test(43, "that was not refused", () -> {
            OwnLight x = marked();
            x.at(0, 0);
            stays(x, BAD, () -> x.cell(5));
            found(x, NOUGHT, () -> x.mean(2));
            stays(x, STATE, () -> x.act(UP));
            due(x.asked(), MARK);
        });
        test(43, "(nor NONE)", () -> {
            OwnLight x = withText(marked(), 1, "g51 D#.#. l201 l401");
            x.town(1);
            x.at(0, 0);
            stays(x, NONE, x::shades);
            stays(x, NONE, () -> x.two(0));
            stays(x, NONE, x::dawn);
            stays(x, NONE, () -> x.shortest(1));
            due(x.asked(), MARK);
        });
        test(43, "0 before", () -> {
            due(new OwnLight().asked(), 0);
            due(town(FOUR).asked(), 0);
        });
    }

    private static void fractions() {
        test(44, "The upper number of what was told last", () -> {
            OwnLight x = marked();
            x.saw(2, 1);
            x.fits();
            due(x.upper(), 3);
            x.orders();
            due(x.upper(), 4);
            x.mean(1);
            x.fits();
            x.dark();
            due(x.upper(), 3);
        });
        test(44, "0 before", () -> {
            due(new OwnLight().upper(), 0);
            due(marked().upper(), 0);
        });
        test(44, "The upper number: 0, of none", () -> {
            OwnLight x = marked();
            x.orders();
            x.saw(0, 1);
            x.saw(1, 0);
            x.fits();
            due(x.upper(), 0);
        });
        test(45, "Its lower number", () -> {
            OwnLight x = marked();
            x.saw(2, 1);
            x.fits();
            due(x.lower(), 4);
            x.orders();
            due(x.lower(), 1);
            x.fits();
            x.sure(0, 1);
            due(x.lower(), 4);
        });
        test(45, "1 before", () -> {
            due(new OwnLight().lower(), 1);
            due(marked().lower(), 1);
        });
        test(45, "(0 by 1)", () -> {
            OwnLight x = marked();
            x.saw(0, 1);
            x.saw(1, 0);
            x.fits();
            dueFraction(x, 0, 1);
        });
    }

    private static void counts() {
        test(46, "0 CELLS, 1 LAMPS", () -> {
            OwnLight x = town(KINDS);
            due(x.count(0), 18);
            due(x.count(1), 6);
        });
        test(46, "2 how many are lit, 3 how many are SHADED", () -> {
            OwnLight x = town(FOUR);
            due(x.count(2), 0);
            acts(x, RIGHT, LIGHT, RIGHT, RIGHT, LIGHT);
            due(x.count(2), 2);
            due(x.count(3), 0);
            x.shade(2, 1);
            due(x.count(3), 1);
            x.begin();
            due(x.count(2), 0);
            due(x.count(3), 1);
        });
        test(46, "4 CORNERS (BRIGHT, too), 5 HOODED ones (FOGGED, too)", () -> {
            OwnLight x = town("g61D.....c001b101b201h301o401o501");
            due(x.count(4), 3);
            due(x.count(5), 3);
            OwnLight y = town("g61D.....l001f101b201h301");
            due(y.count(4), 1);
            due(y.count(5), 1);
        });
        test(46, "6 ROWS, 7 TEXTS that are there", () -> {
            OwnLight x = new OwnLight();
            for (int r = 0; r < 6; r++) {
                x.row(r, 0);
                due(x.count(6), r + 1);
            }
            x.row(3, 9);
            due(x.count(6), 6);
            x.tear(3);
            due(x.count(6), 5);
            for (int t = 0; t < 4; t++) {
                x.text(t, 0);
                due(x.count(7), t + 1);
            }
            x.text(3, 9);
            due(x.count(7), 4);
        });
        test(46, "8 what was SEEN", () -> {
            OwnLight x = town(FOUR);
            for (int i = 0; i < 8; i++) {
                x.saw(0, 1);
                due(x.count(8), i + 1);
            }
            x.saw(0, 1);
            due(x.count(8), 8);
            x.forget(5);
            due(x.count(8), 5);
        });
        test(46, "all 0 before", () -> {
            OwnLight x = new OwnLight();
            for (int what = 0; what <= 8; what++) {
                due(x.count(what), 0);
            }
        });
        test(46, "BAD", () -> {
            OwnLight x = town(FOUR);
            stays(x, BAD, () -> x.count(9));
            stays(x, BAD, () -> x.count(-1));
            stays(x, BAD, () -> x.count(MOST));
            stays(x, BAD, () -> x.count(LEAST));
        });
    }

    private static void findings() {
        test(47, "The latest FINDING", () -> {
            OwnLight x = town(FOUR);
            int[] latest = {SIZE, NOTHING, BEYOND, UNLIKE, NOUGHT, SIZE};
            x.row(0, 0);
            IntSupplier[] calls = {() -> x.row(1, -1), () -> x.tear(5), () -> x.at(0, 0), () -> x.mark(0, 1),
                () -> x.mean(0), () -> x.text(0, -1)};
            for (int i = 0; i < calls.length; i++) {
                due(calls[i].getAsInt(), FINDING);
                due(x.finding(), latest[i]);
            }
        });
        test(47, "The latest FINDING: whatever came since", () -> {
            OwnLight x = town(FOUR);
            x.tear(0);
            x.row(0, 1);
            x.row(0, 61);
            x.act(UP);
            x.town(0);
            due(x.finding(), NOTHING);
        });
        test(47, "(0 before any)", () -> {
            OwnLight x = town(FOUR);
            x.row(0, 61);
            x.act(UP);
            due(x.finding(), 0);
            due(new OwnLight().finding(), 0);
        });
        test(48, "How often a FINDING (1 .. 5) was answered", () -> {
            OwnLight x = town(FOUR);
            x.row(0, 0);
            for (int i = 0; i < 5; i++) {
                x.tear(5);
            }
            for (int i = 0; i < 4; i++) {
                x.at(0, 0);
            }
            for (int i = 0; i < 3; i++) {
                x.mark(0, 1);
            }
            x.mean(0);
            x.mean(0);
            x.row(1, -1);
            for (int f = 1; f <= 5; f++) {
                due(x.findings(f), 6 - f);
            }
            x.town(0);
            due(x.findings(1), 5);
        });
        test(48, "How often: never", () -> {
            OwnLight x = new OwnLight();
            for (int f = 1; f <= 5; f++) {
                due(x.findings(f), 0);
            }
        });
        test(48, "How often: by all of 512 calls but one", () -> {
            OwnLight x = new OwnLight();
            for (int i = 0; i < 511; i++) {
                x.tear(0);
            }
            due(x.findings(1), 511);
        });
        test(48, "BAD", () -> {
            OwnLight x = new OwnLight();
            stays(x, BAD, () -> x.findings(0));
            stays(x, BAD, () -> x.findings(6));
            stays(x, BAD, () -> x.findings(-1));
            stays(x, BAD, () -> x.findings(8));
            stays(x, BAD, () -> x.findings(LEAST));
        });
    }

    private static void digests() {
        long gone = -1;
        test(49, "of a new object (-1: missing)", () ->
            due(new OwnLight().digest(), fold(0, 0, 0, 0, 0, 0, 0, 0, 0, NONE, 0, NONE, 0,
                gone, gone, gone, gone, gone, gone, gone, gone, gone, gone, gone, gone, gone)));
        test(49, "of each CELL what it is; where he is; TEXT's size and places", () -> {
            OwnLight x = town("g22#D..");
            due(x.digest(), fold(4, 0, 0, 0, 0, 0, 0, 1, 0,
                1, 2, 0, 0,
                1, 0, NONE, 0,
                gone, gone, gone,
                gone, gone, gone, gone, gone, gone,
                7, 'g', '2', '2', '#', 'D', '.', '.', gone, gone, gone));
        });
        test(49, "of each LAMP lamp() 0 to 4; INSIDE; the LAMP lit last; what each time; SEEN; kept ROUNDS; ROWS", () -> {
            OwnLight x = town("g21D.l001b101");
            x.shade(1, 1);
            acts(x, LIGHT, RIGHT);
            x.saw(1, 0);
            x.keep(1);
            x.act(LEFT);
            row(x, 2, LEAST, -8, MOST);
            x.row(3, 0);
            x.text(0, 2);
            x.put(0, 1, -128);
            due(x.digest(), fold(2, 2, 1, 1, 1, 0, 2, 1, 1,
                2, 0,
                0, 0, 1, 1, 0, 5, 1, 1, 0, 1,
                0, 1, 0, 3, LIGHT, RIGHT, LEFT,
                1, 0,
                gone, 1, 1, gone,
                gone, gone, 3, LEAST, -8, MOST, 0, gone, gone,
                2, 32, -128, gone, gone, gone));
        });
        test(49, "whether INSIDE (1, 0)", () -> {
            OwnLight x = town("g31D..o001");
            acts(x, LIGHT);
            long before = x.digest();
            acts(x, RIGHT);
            x.text(0, 0);
            due(x.digest() == before ? 1 : 0, 0);
            due(x.digest(), fold(3, 1, 1, 0, 0, 1, 0, 1, 0,
                2, 0, 0,
                4, 0, 1, 1, 0,
                1, 0, 0, 2, LIGHT, RIGHT,
                gone, gone, gone,
                gone, gone, gone, gone, gone, gone,
                0, gone, gone, gone));
        });
        test(49, "of each kept ROUND where he was and LAMPS lit (-1 once: missing)", () -> {
            OwnLight x = town("g31D..o001");
            x.text(0, 0);
            acts(x, LIGHT, RIGHT);
            x.keep(2);
            x.begin();
            x.keep(0);
            due(x.digest(), fold(3, 1, 0, 0, 0, 1, 0, 1, 0,
                2, 0, 0,
                4, 0, 1, 0, 0,
                0, 0, NONE, 0,
                0, 0, gone, 1, 1,
                gone, gone, gone, gone, gone, gone,
                0, gone, gone, gone));
        });
        test(49, "how often he did something, what each time: gone on from a kept one, nothing", () -> {
            OwnLight x = town("g31D..o001");
            x.text(0, 0);
            acts(x, LIGHT, RIGHT);
            x.keep(2);
            x.on(2);
            acts(x, RIGHT);
            due(x.digest(), fold(3, 1, 1, 0, 0, 1, 0, 1, 0,
                2, 0, 0,
                4, 0, 1, 1, 0,
                2, 0, 0, 1, RIGHT,
                gone, gone, 1, 1,
                gone, gone, gone, gone, gone, gone,
                0, gone, gone, gone));
        });
        test(49, "h = 31 h + v, wrapping around, of all ROWS and TEXTS full", () -> {
            OwnLight x = new OwnLight();
            long[] all = new long[9 + 4 + 3 + 6 * 61 + 4 * 81];
            all[6] = 6;
            all[7] = 4;
            all[9] = NONE;
            all[11] = NONE;
            int at = 13;
            while (at < 16) {
                all[at++] = -1;
            }
            for (int r = 0; r < 6; r++) {
                x.row(r, 60);
                x.lay(r, r, MOST);
                x.lay(r, 59, LEAST);
                all[at] = 60;
                all[at + 1 + r] = MOST;
                all[at + 60] = LEAST;
                at += 61;
            }
            for (int t = 0; t < 4; t++) {
                x.text(t, 80);
                x.put(t, 79, -128);
                all[at] = 80;
                for (int i = 0; i < 79; i++) {
                    all[at + 1 + i] = 32;
                }
                all[at + 80] = -128;
                at += 81;
            }
            due(x.digest(), fold(all));
        });
        test(49, "asked() stays", () -> {
            OwnLight x = marked();
            x.at(0, 0);
            x.digest();
            due(x.asked(), MARK);
        });
        test(49, "not of FINDINGS, of what was told, or of what is missing since", () -> {
            OwnLight x = marked();
            long before = x.digest();
            x.tear(5);
            x.fits();
            x.cell(0);
            x.row(5, 3);
            x.tear(5);
            due(x.digest(), before);
        });
    }

    public static void main(String[] args) {
        answers();
        asked();
        fractions();
        counts();
        findings();
        digests();
        end();
    }
}
