/** The boundary cases that promises 18 to 26 and "ROUND", "INSIDE", "STEP" of the Terms name: a round. */
public final class RoundsTest extends Checks {
    /** Two LAMPS that don't bar one another; CELL 2 is in the light of both. */
    private static final String FREE = "g51 D.... l101 l301";
    /** LAMP 0 shines on the CELL of LAMP 1. */
    private static final String BARRED = "g51 D.... l102 l301";
    private static final String ALONE = "g51 D.... l201";
    private static final String EMPTY = "g32 .D. #..";

    /** Where he has done as much as he can do in a ROUND: 200 times, and is at the DOOR. */
    private static OwnLight tired(String town) {
        OwnLight x = town(town);
        for (int i = 0; i < 100; i++) {
            acts(x, RIGHT, LEFT);
        }
        return x;
    }

    private static void steps() {
        test(0, "he begins at the DOOR", () -> {
            due(town("g22...D").where(), 3);
            due(town("g22D...").where(), 0);
        });
        test(0, "no LAMP is lit", () -> {
            OwnLight x = town("g21D.l001l101");
            due(x, x.lit(), 0, NONE);
            due(x.count(2), 0);
        });
        test(0, "A STEP is to the next CELL, if that is a street: not beyond the town", () -> {
            OwnLight x = town("g33 ... .D. ...");
            due(x, x.may(), bits(UP, RIGHT, DOWN, LEFT), 0);
            acts(x, UP);
            due(x, x.may(), bits(RIGHT, DOWN, LEFT), 0);
            acts(x, RIGHT);
            due(x, x.may(), bits(DOWN, LEFT), 0);
            acts(x, DOWN);
            due(x, x.may(), bits(UP, DOWN, LEFT), 0);
            acts(x, DOWN);
            due(x, x.may(), bits(UP, LEFT), 0);
            acts(x, LEFT);
            due(x, x.may(), bits(UP, RIGHT, LEFT), 0);
            acts(x, LEFT);
            due(x, x.may(), bits(UP, RIGHT), 0);
            acts(x, UP);
            due(x, x.may(), bits(UP, RIGHT, DOWN), 0);
            acts(x, UP);
            due(x, x.may(), bits(RIGHT, DOWN), 0);
        });
        test(0, "A STEP is to the next CELL: a row's end doesn't lead to the next row's beginning", () -> {
            OwnLight x = town("g22.D..");
            stays(x, STATE, () -> x.act(RIGHT));
            acts(x, DOWN, LEFT);
            stays(x, STATE, () -> x.act(LEFT));
            OwnLight y = town("g64 .....D ...... ...... ......");
            due(y, y.may(), bits(DOWN, LEFT), 0);
        });
        test(0, "if that is a street: not a wall", () -> {
            OwnLight x = town("g33 .#. #D# .#.");
            due(x, x.may(), 0, 0);
            for (int i = 0; i < 4; i++) {
                int way = i;
                stays(x, STATE, () -> x.act(way));
            }
        });
        test(0, "if no lit LAMP shines there", () -> {
            OwnLight x = town("g61D.....l001l501");
            acts(x, LIGHT, RIGHT, RIGHT);
            due(x, x.may(), bits(RIGHT), 0);
            stays(x, STATE, () -> x.act(LEFT));
        });
        test(0, "a LAMP that isn't lit bars nothing", () -> {
            OwnLight x = town("g51D....l205");
            due(acts(x, RIGHT, RIGHT, RIGHT, RIGHT), 4);
        });
        test(0, "but, while he is INSIDE, the one that he lit last", () -> {
            OwnLight x = town(ALONE);
            acts(x, RIGHT, RIGHT, LIGHT);
            due(x, x.may(), bits(RIGHT, LEFT), 1);
            due(acts(x, RIGHT, LEFT, LEFT, RIGHT), 2);
        });
        test(0, "while he is INSIDE, the one that he lit last: no other one", () -> {
            OwnLight x = town("g61D.....l101l401");
            acts(x, RIGHT, LIGHT, RIGHT, RIGHT, RIGHT, LIGHT, LEFT);
            due(x, x.may(), bits(RIGHT), 1);
            stays(x, STATE, () -> x.act(LEFT));
        });
        test(0, "not SHADED ones' light, but their own CELL", () -> {
            OwnLight x = town("g51D....l103");
            x.shade(0, 1);
            acts(x, RIGHT, LIGHT);
            due(x, x.may(), bits(RIGHT, LEFT), 1);
            acts(x, RIGHT);
            due(x, x.may(), bits(RIGHT), 0);
        });
    }

    private static void inside() {
        test(0, "He stands INSIDE: not before he lit one", () -> {
            OwnLight x = town("g21D.l001");
            due(x, x.may(), bits(RIGHT, LIGHT), 0);
        });
        test(0, "He stands INSIDE, if he is in the light of the LAMP that he lit last", () -> {
            OwnLight x = town(ALONE);
            acts(x, RIGHT, RIGHT, LIGHT);
            due(x, x.may(), bits(RIGHT, LEFT), 1);
            acts(x, LEFT);
            due(x, x.may(), bits(RIGHT, LEFT), 1);
            acts(x, LEFT);
            due(x, x.may(), 0, 0);
        });
        test(0, "and has not been out of it since: he can't come back", () -> {
            OwnLight x = town(ALONE);
            acts(x, RIGHT, RIGHT, LIGHT, LEFT, LEFT);
            stays(x, STATE, () -> x.act(RIGHT));
            due(x, x.may(), 0, 0);
        });
        test(0, "of the LAMP that he lit last: INSIDE anew by the next one", () -> {
            OwnLight x = town(FREE);
            acts(x, RIGHT, LIGHT, RIGHT, RIGHT);
            due(x, x.may(), bits(RIGHT, LIGHT), 0);
            acts(x, LIGHT);
            due(x, x.may(), bits(RIGHT), 1);
            due(x, x.lit(), 3, 1);
        });
        test(0, "He may LIGHT a LAMP, if he stands in its CELL", () -> {
            OwnLight x = town(ALONE);
            stays(x, STATE, () -> x.act(LIGHT));
            acts(x, RIGHT);
            stays(x, STATE, () -> x.act(LIGHT));
            acts(x, RIGHT);
            due(x.act(LIGHT), 2);
        });
        test(0, "He may LIGHT a LAMP, if it is not lit", () -> {
            OwnLight x = town(ALONE);
            acts(x, RIGHT, RIGHT, LIGHT);
            stays(x, STATE, () -> x.act(LIGHT));
            acts(x, LEFT, RIGHT);
            stays(x, STATE, () -> x.act(LIGHT));
        });
        test(0, "He may LIGHT a LAMP, if no lit LAMP shines there: nor the one that he is INSIDE of", () -> {
            OwnLight x = town(BARRED);
            acts(x, RIGHT, LIGHT, RIGHT, RIGHT);
            due(x, x.may(), bits(RIGHT, LEFT), 1);
            stays(x, STATE, () -> x.act(LIGHT));
        });
        test(0, "He may LIGHT a LAMP though it shines on others that are lit", () -> {
            OwnLight x = town(BARRED);
            acts(x, RIGHT, RIGHT, RIGHT, LIGHT, LEFT, LEFT);
            due(x.act(LIGHT), 1);
            due(x, x.lit(), 3, 0);
        });
        test(0, "then he is INSIDE", () -> {
            OwnLight x = town("g21D.l001");
            acts(x, LIGHT);
            due(x, x.may(), bits(RIGHT), 1);
        });
    }

    private static void begins() {
        test(18, "A ROUND is begun: the DOOR's CELL", () -> {
            OwnLight x = town(EMPTY);
            due(x.begin(), 1);
            acts(x, RIGHT, DOWN);
            due(x.begin(), 1);
            due(x, x.where(), 1, 0);
        });
        test(18, "A ROUND is begun: nothing is lit or done", () -> {
            OwnLight x = town("g21D.o001");
            acts(x, LIGHT, RIGHT);
            x.begin();
            due(x, x.lit(), 0, NONE);
            due(x, x.may(), bits(RIGHT, LIGHT), 0);
            stays(x, BAD, () -> x.undo(1));
            due(x.shade(0, 1), 0);
        });
        test(18, "A ROUND is begun: also where one was gone on from", () -> {
            OwnLight x = town("g21D.o001");
            acts(x, LIGHT);
            x.keep(0);
            x.on(0);
            due(x.begin(), 0);
            due(x, x.lit(), 0, NONE);
            due(x, x.may(), bits(RIGHT, LIGHT), 0);
            stays(x, 0, () -> x.undo(0));
        });
        test(18, "A ROUND is begun: what isn't of it stays", () -> {
            OwnLight x = town(FREE);
            x.shade(1, 1);
            x.saw(0, 1);
            acts(x, RIGHT);
            x.keep(2);
            x.begin();
            due(x.count(3), 1);
            due(x.count(8), 1);
            due(x.on(2), 1);
        });
        test(18, "STATE: there are no CELLS", () -> {
            OwnLight x = new OwnLight();
            stays(x, STATE, x::begin);
        });

        test(19, "What he may do now (bits 0 .. 4)", () -> {
            OwnLight x = town("g33 ... .D. ... l111");
            due(x, x.may(), 31, 0);
            acts(x, LIGHT);
            due(x, x.may(), 15, 1);
        });
        test(19, "What he may do now: nothing", () -> {
            due(town("g21D#").may(), 0);
            OwnLight x = town("g21D#l001");
            due(x, x.may(), bits(LIGHT), 0);
            acts(x, LIGHT);
            due(x, x.may(), 0, 1);
        });
        test(19, "whether he is INSIDE (1, 0) by asked()", () -> {
            OwnLight x = town("g31D..l001");
            due(x, x.may(), bits(RIGHT, LIGHT), 0);
            acts(x, LIGHT, RIGHT);
            due(x, x.may(), bits(RIGHT, LEFT), 1);
            acts(x, RIGHT);
            due(x, x.may(), 0, 0);
        });
        test(19, "STATE: there are no CELLS", () -> {
            OwnLight x = new OwnLight();
            stays(x, STATE, x::may);
        });
    }

    private static void acting() {
        test(20, "He does it (0 .. 4): where he is then", () -> {
            OwnLight x = town("g33 ... .D. ... l111");
            due(x.act(UP), 1);
            due(x.act(RIGHT), 2);
            due(x.act(DOWN), 5);
            due(x.act(LEFT), 4);
            due(x.act(LIGHT), 4);
        });
        test(20, "BAD", () -> {
            OwnLight x = town("g33 ... .D. ... l111");
            stays(x, BAD, () -> x.act(5));
            stays(x, BAD, () -> x.act(-1));
            stays(x, BAD, () -> x.act(LEAST));
            stays(x, BAD, () -> x.act(MOST));
            stays(x, BAD, () -> x.act(32));
        });
        test(20, "STATE: no CELLS", () -> {
            OwnLight x = new OwnLight();
            for (int i = 0; i < 5; i++) {
                int what = i;
                stays(x, STATE, () -> x.act(what));
            }
        });
        test(20, "STATE: or he may not", () -> {
            OwnLight x = town("g32 .D. #.. ");
            stays(x, STATE, () -> x.act(UP));
            stays(x, STATE, () -> x.act(LIGHT));
            acts(x, DOWN);
            stays(x, STATE, () -> x.act(LEFT));
            stays(x, STATE, () -> x.act(DOWN));
        });
        test(20, "BAD ahead of STATE", () -> {
            OwnLight x = new OwnLight();
            stays(x, BAD, () -> x.act(5));
            stays(x, BAD, () -> x.act(-1));
        });
        test(20, "FULL: 200 were done: the 200th can be done", () -> {
            OwnLight x = tired("g21D.");
            due(x, x.where(), 0, 200);
            due(x.undo(199), 1);
            due(x, x.where(), 1, 199);
            due(x.act(LEFT), 0);
            due(x, x.where(), 0, 200);
        });
        test(20, "FULL: 200 were done: a step, a LAMP", () -> {
            OwnLight x = tired("g21D.l001");
            stays(x, FULL, () -> x.act(RIGHT));
            stays(x, FULL, () -> x.act(LIGHT));
            due(x, x.lit(), 0, NONE);
        });
        test(20, "FULL: 200 were done: no more in a new ROUND, in one gone on from", () -> {
            OwnLight x = tired("g21D.");
            x.keep(0);
            due(x.begin(), 0);
            due(x.act(RIGHT), 1);
            due(x.on(0), 0);
            due(x.act(RIGHT), 1);
            due(x, x.where(), 1, 1);
        });
        test(20, "(FULL last.)", () -> {
            OwnLight x = tired("g21D.");
            stays(x, BAD, () -> x.act(5));
            stays(x, STATE, () -> x.act(UP));
            stays(x, STATE, () -> x.act(LIGHT));
            stays(x, FULL, () -> x.act(RIGHT));
        });
    }

    private static void tells() {
        test(21, "Where he is; how often he did something by asked()", () -> {
            OwnLight x = town("g21D.o101");
            due(x, x.where(), 0, 0);
            acts(x, RIGHT);
            due(x, x.where(), 1, 1);
            acts(x, LIGHT);
            due(x, x.where(), 1, 2);
            x.act(LIGHT);
            due(x, x.where(), 1, 2);
        });
        test(21, "STATE: there are no CELLS", () -> {
            OwnLight x = new OwnLight();
            stays(x, STATE, x::where);
        });

        test(22, "LAMPS that are lit (bits); the one that was lit last by asked()", () -> {
            OwnLight x = town(FREE);
            acts(x, RIGHT, RIGHT, RIGHT, LIGHT);
            due(x, x.lit(), 2, 1);
            acts(x, LEFT, LEFT, LIGHT);
            due(x, x.lit(), 3, 0);
        });
        test(22, "LAMPS that are lit: none, (NONE) lit last", () -> {
            OwnLight x = town(FREE);
            due(x, x.lit(), 0, NONE);
            acts(x, RIGHT, LIGHT);
            x.undo(1);
            due(x, x.lit(), 0, NONE);
        });
        test(22, "LAMPS that are lit: without CELLS none, too", () -> {
            OwnLight x = new OwnLight();
            due(x, x.lit(), 0, NONE);
        });
        test(22, "LAMPS that are lit: all six", () -> {
            OwnLight x = town("g61D.....o001o101o201o301o401o501");
            acts(x, LIGHT, RIGHT, LIGHT, RIGHT, LIGHT, RIGHT, LIGHT, RIGHT, LIGHT, RIGHT, LIGHT);
            due(x, x.lit(), 63, 5);
            due(x.count(2), 6);
        });
    }

    private static void undoes() {
        test(23, "What he did from number n on is undone: how many", () -> {
            OwnLight x = town(FREE);
            acts(x, RIGHT, RIGHT, RIGHT, LIGHT, LEFT, LEFT, LIGHT);
            due(x.undo(6), 1);
            due(x, x.lit(), 2, 1);
            due(x, x.may(), bits(LEFT, LIGHT), 0);
            due(x.undo(4), 2);
            due(x, x.may(), bits(RIGHT, LEFT), 1);
            due(x, x.where(), 3, 4);
            due(x.undo(3), 1);
            due(x, x.lit(), 0, NONE);
            due(x, x.where(), 3, 3);
        });
        test(23, "n 0: all", () -> {
            OwnLight x = town(FREE);
            acts(x, RIGHT, LIGHT, RIGHT);
            due(x.undo(0), 3);
            due(x, x.where(), 0, 0);
            due(x, x.lit(), 0, NONE);
            due(x, x.may(), bits(RIGHT), 0);
        });
        test(23, "n how often he did something: then 0", () -> {
            OwnLight x = town(FREE);
            acts(x, RIGHT, LIGHT, RIGHT);
            stays(x, 0, () -> x.undo(3));
            OwnLight y = town(FREE);
            stays(y, 0, () -> y.undo(0));
            OwnLight z = new OwnLight();
            stays(z, 0, () -> z.undo(0));
        });
        test(23, "all of 200", () -> {
            OwnLight x = tired("g21D.");
            due(x.undo(0), 200);
            due(x, x.where(), 0, 0);
            due(x.act(RIGHT), 1);
        });
        test(23, "what is done behind it goes on from there", () -> {
            OwnLight x = town(FREE);
            acts(x, RIGHT, RIGHT, RIGHT, RIGHT);
            due(x.undo(1), 3);
            acts(x, LIGHT);
            due(x, x.where(), 1, 2);
            due(x.undo(2), 0);
            due(x, x.lit(), 1, 0);
        });
        test(23, "BAD", () -> {
            OwnLight x = town(FREE);
            acts(x, RIGHT, LIGHT, RIGHT);
            stays(x, BAD, () -> x.undo(4));
            stays(x, BAD, () -> x.undo(-1));
            stays(x, BAD, () -> x.undo(MOST));
            stays(x, BAD, () -> x.undo(LEAST));
            OwnLight y = new OwnLight();
            stays(y, BAD, () -> y.undo(1));
        });
    }

    private static void judges() {
        test(24, "how many of them can be done; how many LAMPS are lit then by asked()", () -> {
            OwnLight x = town(FREE);
            row(x, 0, RIGHT, LIGHT, RIGHT, RIGHT, LIGHT, LEFT, LEFT, UP);
            due(x, x.judge(0), 5, 2);
        });
        test(24, "how many of them can be done: none, as the first can't", () -> {
            OwnLight x = town(FREE);
            row(x, 0, UP, RIGHT, LIGHT);
            due(x, x.judge(0), 0, 0);
        });
        test(24, "how many of them can be done: all", () -> {
            OwnLight x = town(FREE);
            row(x, 0, RIGHT, LIGHT, LEFT);
            due(x, x.judge(0), 3, 1);
        });
        test(24, "how many of them can be done: of none", () -> {
            OwnLight x = town("g21D.o001");
            acts(x, LIGHT);
            x.row(0, 0);
            due(x, x.judge(0), 0, 1);
        });
        test(24, "how many of them can be done: 60", () -> {
            OwnLight x = town("g21D.");
            x.row(5, 60);
            for (int i = 0; i < 60; i++) {
                x.lay(5, i, i % 2 == 0 ? RIGHT : LEFT);
            }
            due(x, x.judge(5), 60, 0);
        });
        test(24, "from as it is", () -> {
            OwnLight x = town(FREE);
            row(x, 0, RIGHT, RIGHT, LIGHT);
            due(x, x.judge(0), 2, 0);
            acts(x, RIGHT, LIGHT);
            due(x, x.judge(0), 3, 2);
            row(x, 0, RIGHT, LEFT, LEFT, RIGHT, RIGHT, RIGHT, LEFT);
            due(x, x.judge(0), 6, 1);
        });
        test(24, "(it stays)", () -> {
            OwnLight x = town(FREE);
            acts(x, RIGHT);
            row(x, 0, LIGHT, RIGHT, RIGHT);
            long before = x.digest();
            due(x, x.judge(0), 3, 1);
            due(x.digest(), before);
            due(x, x.lit(), 0, NONE);
            due(x.act(LIGHT), 1);
        });
        test(24, "BAD", () -> {
            OwnLight x = town(FREE);
            x.row(0, 0);
            x.row(5, 0);
            stays(x, BAD, () -> x.judge(6));
            stays(x, BAD, () -> x.judge(-1));
        });
        test(24, "STATE: no CELLS", () -> {
            OwnLight x = new OwnLight();
            row(x, 0, RIGHT);
            stays(x, STATE, () -> x.judge(0));
        });
        test(24, "NOTHING", () -> {
            OwnLight x = town(FREE);
            found(x, NOTHING, () -> x.judge(0));
        });
        test(24, "UNLIKE: a number that is none", () -> {
            OwnLight x = town(FREE);
            for (int number : new int[] {5, -1, LEAST, MOST}) {
                row(x, 0, number);
                found(x, UNLIKE, () -> x.judge(0));
            }
        });
        test(24, "UNLIKE: a number that is none, behind what can't be done", () -> {
            OwnLight x = town(FREE);
            row(x, 0, UP, RIGHT, 5);
            found(x, UNLIKE, () -> x.judge(0));
            row(x, 0, 4, 0, 4);
            due(x, x.judge(0), 0, 0);
        });
        test(24, "BAD ahead of STATE, STATE ahead of NOTHING and UNLIKE", () -> {
            OwnLight x = new OwnLight();
            stays(x, BAD, () -> x.judge(6));
            stays(x, STATE, () -> x.judge(0));
            row(x, 0, 5);
            stays(x, STATE, () -> x.judge(0));
        });
    }

    private static void keeps() {
        test(25, "The ROUND is kept in a place (0 .. 2): how often he did something", () -> {
            OwnLight x = town(FREE);
            due(x.keep(0), 0);
            acts(x, RIGHT, LIGHT, RIGHT);
            due(x.keep(1), 3);
            due(x.keep(2), 3);
            due(tired("g21D.").keep(0), 200);
        });
        test(25, "kept in a place: each by itself, and anew", () -> {
            OwnLight x = town(FREE);
            x.keep(0);
            acts(x, RIGHT);
            x.keep(1);
            acts(x, RIGHT);
            x.keep(2);
            acts(x, RIGHT);
            due(x.on(0), 0);
            due(x.on(2), 2);
            due(x.on(1), 1);
            x.keep(0);
            due(x.on(0), 1);
        });
        test(25, "BAD", () -> {
            OwnLight x = town(FREE);
            stays(x, BAD, () -> x.keep(3));
            stays(x, BAD, () -> x.keep(-1));
            stays(x, BAD, () -> x.keep(32));
            stays(x, BAD, () -> x.keep(LEAST));
        });
        test(25, "STATE: no CELLS", () -> {
            OwnLight x = new OwnLight();
            stays(x, STATE, () -> x.keep(0));
            stays(x, STATE, () -> x.keep(2));
            found(x, NOTHING, () -> x.on(0));
        });
        test(25, "BAD ahead of STATE", () -> {
            OwnLight x = new OwnLight();
            stays(x, BAD, () -> x.keep(3));
            stays(x, BAD, () -> x.keep(-1));
        });
    }

    private static void goesOn() {
        test(26, "The ROUND is as it was kept: where he is", () -> {
            OwnLight x = town(FREE);
            acts(x, RIGHT, LIGHT, RIGHT);
            x.keep(0);
            x.begin();
            due(x.on(0), 2);
            due(x, x.lit(), 1, 0);
            due(x, x.may(), bits(RIGHT, LEFT), 1);
        });
        test(26, "The ROUND is as it was kept: out of the light, too", () -> {
            OwnLight x = town(ALONE);
            acts(x, RIGHT, RIGHT, LIGHT, LEFT, LEFT);
            x.keep(2);
            x.begin();
            due(x.on(2), 0);
            due(x, x.may(), 0, 0);
            due(x, x.lit(), 1, 0);
        });
        test(26, "The ROUND is as it was kept: before any LAMP was lit", () -> {
            OwnLight x = town("g21D.o001");
            x.keep(1);
            acts(x, LIGHT);
            due(x.on(1), 0);
            due(x, x.lit(), 0, NONE);
            due(x, x.may(), bits(RIGHT, LIGHT), 0);
        });
        test(26, "(what was done can't be undone then: 0)", () -> {
            OwnLight x = town(FREE);
            acts(x, RIGHT, LIGHT, RIGHT);
            x.keep(0);
            due(x.on(0), 2);
            due(x, x.where(), 2, 0);
            stays(x, BAD, () -> x.undo(1));
            stays(x, BAD, () -> x.undo(3));
            stays(x, 0, () -> x.undo(0));
        });
        test(26, "what is done then can be undone", () -> {
            OwnLight x = town(FREE);
            acts(x, RIGHT, LIGHT, RIGHT);
            x.keep(0);
            x.begin();
            x.on(0);
            acts(x, RIGHT, LIGHT);
            due(x, x.where(), 3, 2);
            due(x.undo(0), 2);
            due(x, x.where(), 2, 0);
            due(x, x.lit(), 1, 0);
            due(x, x.may(), bits(RIGHT, LEFT), 1);
        });
        test(26, "as it was kept, however often, whatever was done then", () -> {
            OwnLight x = town(FREE);
            acts(x, RIGHT);
            x.keep(0);
            x.on(0);
            acts(x, LIGHT, RIGHT, RIGHT, LIGHT);
            due(x.on(0), 1);
            due(x, x.lit(), 0, NONE);
            acts(x, LIGHT, LEFT);
            x.begin();
            due(x.on(0), 1);
            due(x, x.may(), bits(RIGHT, LEFT, LIGHT), 0);
        });
        test(26, "BAD", () -> {
            OwnLight x = town(FREE);
            x.keep(0);
            x.keep(2);
            stays(x, BAD, () -> x.on(3));
            stays(x, BAD, () -> x.on(-1));
            stays(x, BAD, () -> x.on(32));
            stays(x, BAD, () -> x.on(MOST));
        });
        test(26, "NOTHING", () -> {
            OwnLight x = town(FREE);
            acts(x, RIGHT);
            x.keep(1);
            acts(x, RIGHT);
            found(x, NOTHING, () -> x.on(0));
            found(x, NOTHING, () -> x.on(2));
            due(x.on(1), 1);
        });
        test(26, "NOTHING: without CELLS, too", () -> {
            OwnLight x = new OwnLight();
            found(x, NOTHING, () -> x.on(0));
            stays(x, BAD, () -> x.on(3));
        });
    }

    public static void main(String[] args) {
        steps();
        inside();
        begins();
        acting();
        tells();
        undoes();
        judges();
        keeps();
        goesOn();
        end();
    }
}
