/** For each promise: ordinary inputs, the edges that the document names, wrong inputs. */
public final class PromisesTest extends Checks {
    /** One LAMP of each KIND, a wall at CELL 8. */
    private static final String KINDS = "g63 D..... ..#... ...... l202 f221 c112 h412 o523 b001";
    /** Two LAMPS that don't bar one another. */
    private static final String FREE = "g51 D.... l101 l301";
    /** LAMP 0 shines on the CELL of LAMP 1. */
    private static final String BARRED = "g51 D.... l102 l301";
    /** Either LAMP shines on the CELL of the other one. */
    private static final String RING = "g51 D.... l102 l302";
    private static final String ALONE = "g51 D.... l201";
    private static final String EMPTY = "g32 .D. #..";

    /** A refusal by a FINDING, which changes nothing else. */
    private static void found(OwnLight x, int before, int got, int finding) {
        due(got, FINDING);
        due(x.finding(), finding);
        due(x.findings(finding), before + 1);
    }

    private static int faultOf(String s) {
        return withText(new OwnLight(), 1, s).fault(1);
    }

    private static void aNewObject() {
        promise(1);
        OwnLight x = new OwnLight();
        for (int what = 0; what <= 8; what++) {
            due(x.count(what), 0);
        }
        for (int r = 0; r < 6; r++) {
            due(x.tear(r), FINDING);
        }
        for (int t = 0; t < 4; t++) {
            due(x.fault(t), FINDING);
        }
        due(x.cell(0), BAD);
        due(x.lamp(0, 0), BAD);
        due(x, x.lit(), 0, NONE);
        due(x.begin(), STATE);
        due(OwnLight.BAD, -1);
        due(OwnLight.FULL, -2);
        due(OwnLight.FINDING, -3);
        due(OwnLight.STATE, -4);
        due(OwnLight.SPENT, -6);
        due(OwnLight.NONE, -9);
    }

    private static void rows() {
        promise(2);
        OwnLight x = new OwnLight();
        due(x.row(0, 0), 0);
        due(x.row(5, 60), 60);
        due(x, x.at(5, 59), 1, 0);
        due(x.at(5, 60), FINDING);
        due(x.row(0, 61), BAD);
        due(x.row(6, 1), BAD);
        due(x.row(-1, 1), BAD);
        due(x.row(6, -1), BAD);
        due(x.row(0, MOST), BAD);
        found(x, 0, x.row(0, -1), 5);
        found(x, 1, x.row(0, LEAST), 5);
        row(x, 1, 7, 8, 9);
        due(x.row(1, 2), 2);
        dueRow(x, 1, 0, 0);

        promise(3);
        x = new OwnLight();
        x.row(2, 3);
        due(x, x.lay(2, 1, 5), 1, 0);
        due(x, x.lay(2, 1, LEAST), 1, 5);
        due(x, x.lay(2, 1, 4), 1, LEAST);
        dueRow(x, 2, 0, 4, 0);
        due(x.lay(6, 0, 1), BAD);
        due(x.lay(-1, 0, 1), BAD);
        found(x, 0, x.lay(3, 0, 1), 1);
        found(x, 1, x.lay(2, 3, 1), 2);
        found(x, 2, x.lay(2, -1, 1), 2);
        found(x, 3, x.lay(2, LEAST, 1), 2);
        dueRow(x, 2, 0, 4, 0);

        promise(4);
        x = new OwnLight();
        row(x, 0, 3, -4);
        due(x, x.at(0, 0), 1, 3);
        due(x, x.at(0, 1), 1, -4);
        found(x, 0, x.at(0, 2), 2);
        found(x, 1, x.at(0, -1), 2);
        found(x, 2, x.at(0, MOST), 2);
        found(x, 0, x.at(1, 0), 1);
        due(x.at(6, 0), BAD);
        due(x.at(-1, 0), BAD);
        due(x.asked(), -4);

        promise(5);
        x = new OwnLight();
        row(x, 4, 1, 2);
        due(x.tear(4), 1);
        due(x.count(6), 0);
        found(x, 0, x.tear(4), 1);
        found(x, 1, x.at(4, 0), 1);
        due(x.tear(6), BAD);
        due(x.tear(-1), BAD);
    }

    private static void copies() {
        promise(6);
        OwnLight x = new OwnLight();
        row(x, 0, 1, 2, 3, 4, 5);
        row(x, 1, 9, 9, 9);
        due(x.copy(0, 1, 1, 0, 2), 1);
        dueRow(x, 1, 2, 3, 9);
        due(x.copy(0, 0, 0, 1, 4), 1);
        dueRow(x, 0, 1, 1, 2, 3, 4);
        due(x.copy(0, 1, 0, 0, 4), 1);
        dueRow(x, 0, 1, 2, 3, 4, 4);
        due(x.copy(0, 5, 1, 3, 0), 1);
        due(x.copy(6, 0, 1, 0, 1), BAD);
        due(x.copy(0, 0, 6, 0, 1), BAD);
        due(x.copy(-1, 0, 0, 0, -1), BAD);
        due(x.copy(0, 0, -1, 0, 1), BAD);
        found(x, 0, x.copy(4, 0, 5, 0, -1), 5);
        found(x, 0, x.copy(4, -1, 0, 0, 0), 1);
        found(x, 1, x.copy(0, 0, 4, -1, 0), 1);
        found(x, 3, x.copy(0, 0, 1, 0, 4), 2);
        found(x, 4, x.copy(1, 0, 0, 0, 4), 2);
        found(x, 5, x.copy(0, 6, 1, 0, 0), 2);
        found(x, 6, x.copy(0, 0, 1, 4, 0), 2);
        found(x, 7, x.copy(0, -1, 1, 0, 0), 2);
        found(x, 8, x.copy(0, 0, 1, -1, 0), 2);
        found(x, 9, x.copy(0, 4, 1, 0, 2), 2);
        found(x, 10, x.copy(0, 1, 1, 1, MOST), 2);
        found(x, 11, x.copy(0, MOST, 1, MOST, 1), 2);
        dueRow(x, 1, 2, 3, 9);

        promise(7);
        x = new OwnLight();
        row(x, 0, 1, 2, 5);
        due(x, x.mean(0), 1, 2);
        row(x, 0, -1, -2, -5);
        due(x, x.mean(0), 1, -2);
        row(x, 0, -1, 0);
        due(x, x.mean(0), 1, 0);
        row(x, 0, MOST, MOST, MOST);
        due(x, x.mean(0), 1, MOST);
        row(x, 0, LEAST, LEAST);
        due(x, x.mean(0), 1, LEAST);
        x.row(1, 0);
        found(x, 0, x.mean(1), 4);
        found(x, 0, x.mean(2), 1);
        due(x.mean(6), BAD);
        due(x.mean(-1), BAD);
        due(x.asked(), LEAST);
    }

    private static void texts() {
        promise(8);
        OwnLight x = new OwnLight();
        due(x.text(3, 80), 80);
        due(x.put(3, 79, 1), 1032);
        due(x.text(0, 0), 0);
        due(x.text(0, 81), BAD);
        due(x.text(4, 1), BAD);
        due(x.text(-1, 1), BAD);
        due(x.text(4, -1), BAD);
        found(x, 0, x.text(0, -1), 5);
        due(x.text(3, 80), 80);
        due(x.put(3, 79, 1), 1032);

        promise(9);
        x = new OwnLight();
        x.text(2, 2);
        due(x.put(2, 0, 127), 1032);
        due(x.put(2, 0, 128), 1127);
        due(x.put(2, 0, 256), 872);
        due(x.put(2, 0, -129), 1000);
        due(x.put(2, 0, -1), 1127);
        due(x.put(2, 0, 0), 999);
        due(x.put(2, 1, 0), 1032);
        found(x, 0, x.put(2, 2, 0), 2);
        found(x, 1, x.put(2, -1, 0), 2);
        found(x, 0, x.put(3, 0, 0), 1);
        due(x.put(4, 0, 0), BAD);
        due(x.put(-1, 0, 0), BAD);
    }

    private static void faults() {
        promise(10);
        due(faultOf(""), 0);
        due(faultOf("    "), 4);
        due(faultOf(KINDS), NONE);
        due(faultOf("g21D."), NONE);
        due(faultOf("  g21 D  .  "), NONE);
        due(faultOf("g21D.l001l101"), NONE);
        due(faultOf("g64D......................." + "l001l101l201l301l401l501"), NONE);
        due(faultOf("g61D.....l001l101l201l301l401l501l501"), 33);
        due(faultOf("g61D.....l001l101l201l301l401l501  x"), 35);
        due(faultOf("x"), 0);
        due(faultOf(" G21"), 1);
        due(faultOf("g"), 1);
        due(faultOf("g 21"), 1);
        due(faultOf("g11"), 1);
        due(faultOf("g71"), 1);
        due(faultOf("g2"), 2);
        due(faultOf("g20"), 2);
        due(faultOf("g25"), 2);
        due(faultOf("g2 1"), 2);
        due(faultOf("g21"), 3);
        due(faultOf("g21 D"), 5);
        due(faultOf("g21 Dd"), 5);
        due(faultOf("g21D D"), 5);
        due(faultOf("g21..   "), 5);
        due(faultOf("g21.. l001"), 5);
        due(faultOf("g21.#"), 5);
        due(faultOf("g21D.k001"), 5);
        due(faultOf("g21D.."), 5);
        due(faultOf("g21D.l"), 6);
        due(faultOf("g21D.l 001"), 6);
        due(faultOf("g21D.l201"), 6);
        due(faultOf("g21D.l0"), 7);
        due(faultOf("g21D.l0 01"), 7);
        due(faultOf("g21D.l011"), 7);
        due(faultOf("g21D#l101"), 7);
        due(faultOf("g21D.l001 h001"), 12);
        due(faultOf("g21D.l00"), 8);
        due(faultOf("g21D.l000"), 8);
        due(faultOf("g21D.l006"), 8);
        due(faultOf("g21D.l005"), NONE);
        due(faultOf("g21D.l00 1"), 8);
        OwnLight x = new OwnLight();
        found(x, 0, x.fault(0), 1);
        due(x.fault(4), BAD);
        due(x.fault(-1), BAD);
        // 288 is a blank when cut to a byte, but no blank's neighbour is
        withText(x, 0, "g21D. ");
        x.put(0, 5, 288);
        due(x.fault(0), NONE);
        x.put(0, 5, -32);
        due(x.fault(0), 5);
    }

    private static void towns() {
        promise(11);
        OwnLight x = withText(new OwnLight(), 2, KINDS);
        due(x.town(2), 6);
        due(x.count(0), 18);
        due(x.town(4), BAD);
        due(x.town(-1), BAD);
        found(x, 0, x.town(3), 1);
        withText(x, 3, "g21..");
        due(x.town(3), STATE);
        due(x.count(0), 18);
        withText(x, 3, FREE);
        x.shade(1, 1);
        x.act(RIGHT);
        x.saw(0, 1);
        x.keep(0);
        x.keep(2);
        due(x.town(3), 2);
        due(x.count(0), 5);
        due(x.count(1), 2);
        due(x.count(3), 0);
        due(x.count(8), 0);
        due(x, x.where(), 0, 0);
        due(x.on(0), FINDING);
        due(x.on(2), FINDING);
        withText(x, 3, EMPTY);
        due(x.town(3), 0);
        due(x.begin(), 1);

        promise(12);
        x = town(EMPTY);
        due(x, x.cell(0), 0, NONE);
        due(x, x.cell(1), 2, NONE);
        due(x, x.cell(3), 1, NONE);
        due(x.cell(6), BAD);
        due(x.cell(-1), BAD);
        x = town(KINDS);
        due(x, x.cell(0), 2, 5);
        due(x, x.cell(2), 0, 0);
        due(x, x.cell(14), 0, 1);
        due(x, x.cell(8), 1, NONE);
        due(x, x.cell(17), 0, 4);
        due(x.cell(18), BAD);
    }

    private static void lamps() {
        promise(13);
        OwnLight x = town(KINDS);
        int[][] all = {{0, 2, 2}, {1, 14, 1}, {2, 7, 2}, {3, 10, 2}, {4, 17, 3}, {5, 0, 1}};
        for (int k = 0; k < 6; k++) {
            for (int what = 0; what < 3; what++) {
                due(x, x.lamp(k, what), 1, all[k][what]);
            }
            due(x, x.lamp(k, 3), 1, 0);
            due(x, x.lamp(k, 4), 1, 0);
        }
        x.act(LIGHT);
        x.shade(2, 1);
        due(x, x.lamp(5, 3), 1, 1);
        due(x, x.lamp(4, 3), 1, 0);
        due(x, x.lamp(2, 4), 1, 1);
        due(x, x.lamp(1, 4), 1, 0);
        due(x.lamp(6, 0), BAD);
        due(x.lamp(-1, 0), BAD);
        due(x.lamp(0, 5), BAD);
        due(x.lamp(0, -1), BAD);

        promise(14);
        x = town(KINDS);
        due(x.mark(1, 1), 5);
        due(x.mark(2, 2), 4);
        due(x.mark(3, 3), 2);
        due(x.mark(4, 4), 3);
        due(x.mark(4, 3), 3);
        due(x.mark(5, 5), 2);
        due(x.mark(5, 2), 1);
        x.shade(5, 1);
        x.shade(1, 1);
        due(x.mark(5, 5), 2);
        due(x.mark(5, 2), 1);
        due(x.mark(1, 1), 5);
        due(x.mark(0, 0), BAD);
        due(x.mark(0, 6), BAD);
        due(x.mark(0, -1), BAD);
        due(x.mark(6, 1), BAD);
        due(x.mark(-1, 1), BAD);
        found(x, 0, x.mark(0, 1), 3);
        found(x, 1, x.mark(2, 5), 3);
        found(x, 2, x.mark(3, 4), 3);
        found(x, 3, x.mark(1, 2), 3);
        found(x, 4, x.mark(2, 3), 3);
        found(x, 5, x.mark(5, 1), 3);

        promise(15);
        x = town(KINDS);
        int[] lights = {31, 126976, 28871, 3584, 229376, 4295};
        for (int k = 0; k < 6; k++) {
            due(x.shines(k), lights[k]);
        }
        due(town("g64D.......................l222").shines(0), 1 << 2 | 1 << 8 | 31 << 12 | 1 << 20);
        x.shade(2, 1);
        due(x.shines(2), 128);
        x.shade(2, 0);
        due(x.shines(2), 28871);
        due(x.shines(6), BAD);
        due(x.shines(-1), BAD);

        promise(16);
        x = town(KINDS);
        due(x, x.light(0), 0, 0);
        due(x, x.light(1), 31, 5);
        due(x, x.light(9), 31 | 3584, 8);
        due(x, x.light(33), 31 | 4295, 8);
        x.shade(0, 1);
        due(x, x.light(33), 4295, 6);
        due(x.light(64), BAD);
        due(x.light(-1), BAD);
        due(x.light(LEAST), BAD);
        due(x.asked(), 6);

        promise(17);
        x = town(ALONE);
        due(x.shade(0, 1), 0);
        due(x.shade(0, 1), 1);
        due(x.count(3), 1);
        due(x.shade(0, 0), 1);
        due(x.shade(0, 0), 0);
        due(x.shade(0, 2), BAD);
        due(x.shade(0, -1), BAD);
        due(x.shade(1, 0), BAD);
        due(x.shade(-1, 0), BAD);
        acts(x, RIGHT, RIGHT, LIGHT);
        due(x.shade(0, 0), STATE);
        due(x.shade(0, 1), STATE);
        due(x.shade(0, 2), BAD);
        x.undo(2);
        due(x.shade(0, 1), 0);
        due(x.shade(0, 1), 1);
    }

    private static void steps() {
        promise(18);
        OwnLight x = town(EMPTY);
        due(x.begin(), 1);
        acts(x, RIGHT, DOWN);
        due(x.begin(), 1);
        due(x, x.where(), 1, 0);
        due(new OwnLight().begin(), STATE);
        x = town(ALONE);
        acts(x, RIGHT, RIGHT, LIGHT);
        due(x.begin(), 0);
        due(x, x.lit(), 0, NONE);

        promise(19);
        x = town(EMPTY);
        due(x, x.may(), 2 | 4 | 8, 0);
        acts(x, DOWN);
        due(x, x.may(), 1 | 2, 0);
        x = town(ALONE);
        due(x, x.may(), 2, 0);
        acts(x, RIGHT, RIGHT);
        due(x, x.may(), 2 | 8 | 16, 0);
        acts(x, LIGHT);
        due(x, x.may(), 2 | 8, 1);
        acts(x, RIGHT);
        due(x, x.may(), 2 | 8, 1);
        acts(x, RIGHT);
        due(x, x.may(), 0, 0);
        due(new OwnLight().may(), STATE);
        // another one's light bars, inside too; what he lit himself bars no lamp in the dark
        x = town("g61D.....l101l401");
        acts(x, RIGHT, LIGHT, RIGHT, RIGHT, RIGHT, LIGHT, LEFT);
        due(x, x.may(), 2, 1);
        acts(x, RIGHT);
        due(x, x.may(), 2 | 8, 1);
        // a lamp in his own light can't be lit, inside or not
        x = town(BARRED);
        acts(x, RIGHT, LIGHT, RIGHT, RIGHT);
        due(x, x.may(), 2 | 8, 1);

        promise(20);
        x = town(ALONE);
        due(x.act(UP), STATE);
        due(x.act(LEFT), STATE);
        due(x.act(LIGHT), STATE);
        due(x.act(RIGHT), 1);
        due(x.act(RIGHT), 2);
        due(x.act(LIGHT), 2);
        due(x.act(LIGHT), STATE);
        due(x.act(LEFT), 1);
        due(x.act(LEFT), 0);
        due(x.act(RIGHT), STATE);
        due(x.act(5), BAD);
        due(x.act(-1), BAD);
        due(new OwnLight().act(5), BAD);
        due(new OwnLight().act(0), STATE);
        x = town(EMPTY);
        due(x.act(DOWN), 4);
        due(x.act(RIGHT), 5);
        due(x.act(UP), 2);
        due(x.act(LEFT), 1);
        for (int i = 0; i < 98; i++) {
            acts(x, RIGHT, LEFT);
        }
        due(x, x.where(), 1, 200);
        due(x.act(RIGHT), FULL);
        due(x.act(UP), STATE);
        due(x.act(5), BAD);
        due(x, x.where(), 1, 200);
        due(x.undo(199), 1);
        due(x.act(LEFT), 1);
        due(x.act(LEFT), FULL);
    }

    private static void rounds() {
        promise(21);
        OwnLight x = town(EMPTY);
        due(x, x.where(), 1, 0);
        acts(x, RIGHT, DOWN);
        due(x, x.where(), 5, 2);
        due(new OwnLight().where(), STATE);

        promise(22);
        x = town(FREE);
        due(x, x.lit(), 0, NONE);
        acts(x, RIGHT, RIGHT, RIGHT, LIGHT);
        due(x, x.lit(), 2, 1);
        acts(x, LEFT, LEFT, LIGHT);
        due(x, x.lit(), 3, 0);

        promise(23);
        due(x.undo(8), BAD);
        due(x.undo(-1), BAD);
        due(x.undo(7), 0);
        due(x.undo(6), 1);
        due(x, x.lit(), 2, 1);
        due(x, x.may(), 8 | 16, 0);
        due(x.undo(5), 1);
        due(x, x.may(), 2 | 8, 1);
        due(x.undo(0), 5);
        due(x, x.where(), 0, 0);
        due(x, x.lit(), 0, NONE);
        due(x.undo(0), 0);
        due(new OwnLight().undo(0), 0);
        due(new OwnLight().undo(1), BAD);

        promise(24);
        x = town(FREE);
        row(x, 0, RIGHT, LIGHT, RIGHT, RIGHT, LIGHT, LEFT, LEFT, UP);
        due(x, x.judge(0), 5, 2);
        due(x, x.where(), 0, 0);
        acts(x, RIGHT, LIGHT);
        due(x, x.judge(0), 1, 1);
        row(x, 0, RIGHT, RIGHT, LIGHT);
        due(x, x.judge(0), 3, 2);
        row(x, 0, UP, RIGHT, RIGHT, LIGHT);
        due(x, x.judge(0), 0, 1);
        x.row(0, 0);
        due(x, x.judge(0), 0, 1);
        row(x, 0, UP, 5);
        found(x, 0, x.judge(0), 3);
        row(x, 0, -1);
        found(x, 1, x.judge(0), 3);
        found(x, 0, x.judge(1), 1);
        due(x.judge(6), BAD);
        due(x.judge(-1), BAD);
        due(new OwnLight().judge(0), STATE);

        promise(25);
        x = town(FREE);
        acts(x, RIGHT, LIGHT, RIGHT);
        due(x.keep(0), 3);
        due(x.keep(2), 3);
        due(x.keep(3), BAD);
        due(x.keep(-1), BAD);
        due(new OwnLight().keep(0), STATE);
        due(new OwnLight().keep(3), BAD);

        promise(26);
        acts(x, RIGHT, LIGHT);
        due(x.keep(1), 5);
        x.begin();
        due(x.on(0), 2);
        due(x, x.where(), 2, 0);
        due(x, x.lit(), 1, 0);
        due(x, x.may(), 2 | 8, 1);
        due(x.undo(1), BAD);
        due(x.act(RIGHT), 3);
        due(x.keep(0), 1);
        due(x.undo(0), 1);
        due(x, x.where(), 2, 0);
        due(x, x.may(), 2 | 8, 1);
        due(x.on(1), 3);
        due(x, x.lit(), 3, 1);
        due(x.on(0), 3);
        due(x, x.may(), 2 | 16, 0);
        due(x.on(3), BAD);
        due(x.on(-1), BAD);
        x = new OwnLight();
        found(x, 0, x.on(0), 1);
        x = town(FREE);
        x.keep(1);
        found(x, 0, x.on(0), 1);
        due(x.on(1), 0);
    }

    private static void orders() {
        promise(27);
        OwnLight x = town(FREE);
        due(x.shortest(3), 3);
        dueRow(x, 3, 0, 1);
        due(x.count(6), 1);
        acts(x, RIGHT, RIGHT);
        x.lit();
        due(x, x.shortest(3), 3, NONE);
        due(x, x.where(), 2, 2);
        x = town(BARRED);
        due(x.shortest(0), 5);
        dueRow(x, 0, 1, 0);
        x = town("g51..D..l101l301");
        due(x.shortest(0), 3);
        dueRow(x, 0, 0, 1);
        x = town("g51D....l001");
        due(x.shortest(0), 0);
        dueRow(x, 0, 0);
        x = town(EMPTY);
        row(x, 0, 5, 5);
        due(x.shortest(0), 0);
        dueRow(x, 0);
        x = town(RING);
        row(x, 0, 5, 6);
        due(x.shortest(0), NONE);
        dueRow(x, 0, 5, 6);
        due(x.shortest(6), BAD);
        due(x.shortest(-1), BAD);
        due(new OwnLight().shortest(0), STATE);

        promise(28);
        dueOrders(FREE, 2);
        dueOrders(BARRED, 1);
        dueOrders(RING, 0);
        dueOrders(EMPTY, 1);
        dueOrders("g64D.......................o001o501o031o531o221o311", 720);
        due(new OwnLight().orders(), STATE);

        promise(29);
        x = town(FREE);
        due(x, x.first(), 3, 3);
        x = town(BARRED);
        due(x, x.first(), 2, 1);
        x.shade(0, 1);
        due(x, x.first(), 3, 3);
        x = town(RING);
        due(x, x.first(), 0, 0);
        due(new OwnLight().first(), STATE);
    }

    private static void dueOrders(String town, int many) {
        OwnLight x = town(town);
        due(x.orders(), 1);
        due(x.upper(), many);
        due(x.lower(), 1);
    }

    private static void barring() {
        promise(30);
        OwnLight x = town(BARRED);
        due(x, x.bars(0), 2, 0);
        due(x, x.bars(1), 0, 1);
        x.shade(0, 1);
        due(x, x.bars(0), 0, 0);
        x = town(RING);
        due(x, x.bars(0), 2, 2);
        x.shade(1, 1);
        due(x, x.bars(0), 2, 0);
        due(x.bars(2), BAD);
        due(x.bars(-1), BAD);
        due(new OwnLight().bars(0), BAD);

        promise(31);
        x = town(BARRED);
        due(x, x.rings(), 0, 0);
        x = town(RING);
        due(x, x.rings(), 3, 2);
        x.shade(0, 1);
        due(x, x.rings(), 0, 0);
        x = town("g43.....D......h003l302h323l022");
        due(x, x.rings(), 15, 4);
        // a lamp that only leads into a ring, and one to which a ring leads, are in none
        x = town("g61D.....l001l202l402");
        due(x, x.rings(), 6, 2);
        x = new OwnLight();
        due(x, x.rings(), 0, 0);
    }

    private static void dark() {
        promise(32);
        OwnLight x = town(FREE);
        due(x, x.dark(), 0, 0);
        x = town(RING);
        due(x, x.dark(), 1, 1);
        x = town("g51D.#..l101l401");
        due(x, x.dark(), 1, 2);
        x = town("g51D#...l201l401");
        due(x, x.dark(), 2, 3);
        due(new OwnLight().dark(), STATE);

        promise(33);
        x = town(FREE);
        due(x, x.bright(), 5, 3);
        x = town(RING);
        due(x, x.bright(), 4, 1);
        x = town("g51D....l101l402");
        due(x, x.bright(), 5, 3);
        x = town("g51D....f102o404");
        due(x, x.bright(), 5, 1);
        x = town("g51D#...l201");
        due(x, x.bright(), 0, 0);
        due(new OwnLight().bright(), STATE);

        promise(34);
        x = town(FREE);
        due(x, x.shades(), 0, 0);
        x = town(RING);
        due(x, x.shades(), 1, 1);
        x.shade(1, 1);
        due(x, x.shades(), 0, 0);
        x = town("g51D....l101l201l301l401");
        due(x, x.shades(), 3, 7);
        x.shade(1, 1);
        due(x, x.shades(), 2, 5);
        x = town("g51D#...l201");
        x.lit();
        due(x, x.shades(), NONE, NONE);
        due(x.count(3), 0);
        due(new OwnLight().shades(), STATE);

        promise(35);
        x = town(FREE);
        due(x, x.two(0), 3, 0);
        due(x, x.two(3), 1, 1);
        due(x, x.two(4), 2, 1);
        x = town(RING);
        x.lit();
        due(x, x.two(4), NONE, NONE);
        x = town("g51D.#..l101l401");
        due(x, x.two(3), 2, 1);
        x = town("g51D....l001");
        due(x, x.two(0), 0, 0);
        x = town(EMPTY);
        due(x, x.two(0), 0, 0);
        due(x.two(3), BAD);
        due(x.two(6), BAD);
        due(x.two(-1), BAD);
        // of as few steps: the fewest lamps for the first one, then the least bits
        x = town("g51..D..o301o401o001");
        due(x, x.two(2), 4, 4);
        x = town("g51..D..o301o101");
        due(x, x.two(2), 2, 1);
        x = town("g61...D..o501o401o001o201");
        due(x, x.two(3), 5, 3);
        // where the first one's lamp shines the second can't stand, but where there is none left to light he may
        x = town("g51D....l102");
        due(x, x.two(3), 1, 1);
    }

    private static void thieves() {
        promise(36);
        OwnLight x = town(FREE);
        due(x, x.thief(0, 0), 31, 5);
        due(x, x.thief(4, 1), 24, 2);
        due(x, x.thief(0, 2), 3, 2);
        due(x, x.thief(0, 1), 0, 0);
        due(x, x.thief(0, 3), 0, 0);
        x.shade(0, 1);
        due(x, x.thief(0, 1), 1, 1);
        x = town(EMPTY);
        due(x, x.thief(3, 0), 0, 0);
        due(x, x.thief(0, 0), 55, 5);
        due(x.thief(6, 0), BAD);
        due(x.thief(-1, 0), BAD);
        due(x.thief(0, 1), BAD);
        due(x.thief(0, -1), BAD);

        promise(37);
        x = town(FREE);
        due(x.saw(0, 0), BAD);
        due(x.saw(2, 0), BAD);
        due(x.saw(0, 2), BAD);
        due(x.saw(-1, 0), BAD);
        due(x.saw(0, -1), BAD);
        for (int i = 0; i < 8; i++) {
            due(x.saw(i % 2, 1 - i % 2), i);
        }
        due(x.saw(0, 1), FULL);
        due(x.saw(0, 0), BAD);
        due(x.count(8), 8);

        promise(38);
        due(x.forget(9), BAD);
        due(x.forget(-1), BAD);
        due(x.forget(8), 0);
        due(x.forget(6), 2);
        due(x.count(8), 6);
        due(x.forget(0), 6);
        due(x.forget(0), 0);
        due(x.forget(1), BAD);
        due(x.saw(0, 1), 0);

        promise(39);
        x = town("g51D....l101o301o401");
        x.orders();
        due(x.upper(), 4);
        due(x.fits(), 4);
        due(x.upper(), 1);
        due(x.lower(), 1);
        x.saw(2, 1);
        due(x.fits(), 3);
        due(x.upper(), 3);
        due(x.lower(), 4);
        x.saw(1, 0);
        due(x.fits(), 1);
        due(x.upper(), 1);
        due(x.lower(), 4);
        x.forget(0);
        x.saw(0, 2);
        due(x.fits(), 2);
        due(x.upper(), 1);
        due(x.lower(), 2);
        x.saw(1, 0);
        due(x.fits(), 0);
        due(x.upper(), 0);
        due(x.lower(), 1);
        x = town(EMPTY);
        due(x.fits(), 1);
        due(x.upper(), 1);
        x = town(RING);
        found(x, 0, x.fits(), 4);
        due(x.upper(), 0);
        due(x.lower(), 1);
        due(new OwnLight().fits(), STATE);

        promise(40);
        x = town("g51D....l101o301o401");
        due(x.sure(0, 1), 2);
        due(x.sure(2, 1), 2);
        x.saw(2, 1);
        due(x.sure(2, 1), 1);
        due(x.sure(1, 2), 0);
        due(x.sure(0, 1), 2);
        x.saw(1, 0);
        due(x.sure(2, 0), 1);
        due(x.sure(0, 2), 0);
        x.saw(0, 2);
        found(x, 0, x.sure(0, 1), 4);
        due(x.sure(0, 0), BAD);
        due(x.sure(3, 0), BAD);
        due(x.sure(0, 3), BAD);
        due(x.sure(-1, 0), BAD);
        x = town(RING);
        found(x, 0, x.sure(0, 1), 4);
        x = town(BARRED);
        due(x.sure(1, 0), 1);
        due(x.sure(0, 1), 0);
    }

    private static void dawn() {
        promise(41);
        OwnLight x = town("g51D....l101l201");
        due(x, x.dawn(), 1, 0);
        x = town("g51D....l101l401");
        due(x, x.dawn(), 3, 0);
        x = town("g61D.....l001l501");
        due(x, x.dawn(), NONE, 0);
        x = town("g61D.....h501l101l301");
        due(x, x.dawn(), 4, 0);
        x = town("g61D.....l103o401");
        due(x, x.dawn(), 3, 0);
        x = town("g61D.....o401l103");
        due(x, x.dawn(), 3, 0);
        // the light of the one put out last holds till he has left it, not again
        x = town("g32.....Do001l202");
        due(x, x.dawn(), 2, 0);
        x = town(ALONE);
        due(x, x.dawn(), 0, 0);
        x.shade(0, 1);
        due(x, x.dawn(), 0, 0);
        due(town(EMPTY).dawn(), STATE);
        due(new OwnLight().dawn(), STATE);
    }

    private static void lots() {
        promise(42);
        OwnLight x = town("g31D..l101");
        acts(x, RIGHT, RIGHT);
        due(x, x.lots(5, 1), 0, 5);
        due(x, x.lots(6, 1), 1, 6);
        due(x, x.where(), 2, 2);
        due(x, x.lit(), 0, NONE);
        x = town("g21D#l001");
        due(x, x.lots(10, 7), 1, 1);
        x = town("g21D.");
        due(x, x.lots(200, 2147483646), 0, 200);
        x = town("g21#D");
        due(x, x.lots(200, 1), 0, 0);
        due(x.lots(0, 1), BAD);
        due(x.lots(201, 1), BAD);
        due(x.lots(1, 0), BAD);
        due(x.lots(1, -1), BAD);
        due(x.lots(1, MOST), BAD);
        due(new OwnLight().lots(1, 1), STATE);
        due(new OwnLight().lots(0, 1), BAD);
    }

    private static void told() {
        promise(43);
        OwnLight x = town(FREE);
        due(x.asked(), 0);
        x.shines(0);
        due(x, x.cell(1), 0, 0);
        due(x, x.cell(0), 2, NONE);
        x.cell(9);
        x.lamp(0, 9);
        x.light(99);
        due(x.asked(), NONE);
        x.orders();
        x.fits();
        x.shade(1, 0);
        x.saw(0, 1);
        x.sure(0, 1);
        x.digest();
        due(x.asked(), NONE);
        due(new OwnLight().asked(), 0);

        promise(44);
        due(new OwnLight().upper(), 0);
        x = town("g51D....l101o301o401");
        x.saw(2, 1);
        x.fits();
        due(x.upper(), 3);
        x.orders();
        due(x.upper(), 4);

        promise(45);
        due(new OwnLight().lower(), 1);
        due(x.lower(), 1);
        x.fits();
        due(x.lower(), 4);
        x.shade(0, 3);
        due(x.lower(), 4);

        promise(46);
        x = town(KINDS);
        int[] counts = {18, 6, 0, 0, 2, 2, 0, 1, 0};
        for (int what = 0; what <= 8; what++) {
            due(x.count(what), counts[what]);
        }
        x.act(LIGHT);
        x.shade(0, 1);
        x.shade(4, 1);
        x.row(0, 0);
        x.row(3, 2);
        x.text(3, 0);
        x.saw(0, 1);
        x.saw(0, 1);
        x.saw(0, 1);
        counts = new int[] {18, 6, 1, 2, 2, 2, 2, 2, 3};
        for (int what = 0; what <= 8; what++) {
            due(x.count(what), counts[what]);
        }
        due(x.count(9), BAD);
        due(x.count(-1), BAD);

        promise(47);
        x = new OwnLight();
        due(x.finding(), 0);
        x.row(0, -1);
        due(x.finding(), 5);
        x.tear(0);
        due(x.finding(), 1);
        x.tear(9);
        x.row(0, 1);
        due(x.finding(), 1);

        promise(48);
        for (int f = 1; f <= 5; f++) {
            due(x.findings(f), f == 1 || f == 5 ? 1 : 0);
        }
        x.at(0, 1);
        x.at(0, 1);
        due(x.findings(2), 2);
        due(x.findings(0), BAD);
        due(x.findings(6), BAD);
        due(x.findings(-1), BAD);
    }

    private static void digests() {
        promise(49);
        OwnLight x = new OwnLight();
        long missing = -1;
        due(x.digest(), fold(0, 0, 0, 0, 0, 0, 0, 0, 0, NONE, 0, NONE, 0,
                missing, missing, missing, missing, missing, missing, missing, missing, missing, missing, missing, missing, missing));
        x = town("g21D.l001b101");
        x.shade(1, 1);
        acts(x, LIGHT, RIGHT);
        x.saw(1, 0);
        x.keep(1);
        x.act(LEFT);
        row(x, 2, 7, -8);
        x.text(0, 1);
        x.lamp(1, 0);
        long due = fold(2, 2, 1, 1, 1, 0, 1, 1, 1,
                2, 0,
                0, 0, 1, 1, 0,
                5, 1, 1, 0, 1,
                0, 1, 0, 3, LIGHT, RIGHT, LEFT,
                1, 0,
                missing, 1, 1, missing,
                missing, missing, 2, 7, -8, missing, missing, missing,
                1, 32, missing, missing, missing);
        due(x.digest(), due);
        due(x.asked(), 5);
        x.row(0, -1);
        x.tear(9);
        due(x.digest(), due);
        due(x.asked(), 5);
    }

    public static void main(String[] args) {
        aNewObject();
        rows();
        copies();
        texts();
        faults();
        towns();
        lamps();
        steps();
        rounds();
        orders();
        barring();
        dark();
        thieves();
        dawn();
        lots();
        told();
        digests();
        end();
    }
}
