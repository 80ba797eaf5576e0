/** The boundary cases that promises 1 to 9 and "ROWS", "TEXTS" of the Terms name: rows and texts. */
public final class RowsTest extends Checks {

    private static void terms() {
        test(0, "ROWS 0 .. 5: the first and the last", () -> {
            OwnLight x = new OwnLight();
            due(x.row(0, 1), 1);
            due(x.row(5, 1), 1);
            due(x.count(6), 2);
        });
        test(0, "ROWS 0 .. 5: none beside them", () -> {
            OwnLight x = new OwnLight();
            for (int r : new int[] {-1, 6, 7, 8, LEAST, MOST}) {
                stays(x, BAD, () -> x.row(r, 1));
            }
        });
        test(0, "TEXTS 0 .. 3: the first and the last", () -> {
            OwnLight x = new OwnLight();
            due(x.text(0, 1), 1);
            due(x.text(3, 1), 1);
            due(x.count(7), 2);
        });
        test(0, "TEXTS 0 .. 3: none beside them", () -> {
            OwnLight x = new OwnLight();
            for (int t : new int[] {-1, 4, 5, 8, LEAST, MOST}) {
                stays(x, BAD, () -> x.text(t, 1));
            }
        });
        test(0, "rows of 0 to 60 ints: an int's least and most are kept", () -> {
            OwnLight x = new OwnLight();
            row(x, 0, LEAST, MOST, -1, 0);
            dueRow(x, 0, LEAST, MOST, -1, 0);
        });
        test(0, "or missing (at first)", () -> {
            OwnLight x = new OwnLight();
            for (int i = 0; i < 6; i++) {
                int r = i;
                found(x, NOTHING, () -> x.at(r, 0));
            }
            OwnLight y = new OwnLight();
            for (int i = 0; i < 4; i++) {
                int t = i;
                found(y, NOTHING, () -> y.put(t, 0, 1));
            }
        });
    }

    private static void newObject() {
        test(1, "No ROWS", () -> due(new OwnLight().count(6), 0));
        test(1, "No TEXTS", () -> due(new OwnLight().count(7), 0));
        test(1, "No CELLS", () -> {
            OwnLight x = new OwnLight();
            due(x.count(0), 0);
            stays(x, BAD, () -> x.cell(0));
        });
        test(1, "No LAMPS", () -> {
            OwnLight x = new OwnLight();
            due(x.count(1), 0);
            stays(x, BAD, () -> x.lamp(0, 0));
        });
    }

    private static void rows() {
        test(2, "A ROW is there with n ints 0: n", () -> {
            OwnLight x = new OwnLight();
            due(x.row(2, 3), 3);
            dueRow(x, 2, 0, 0, 0);
        });
        test(2, "A ROW is there with n ints 0: whatever it was", () -> {
            OwnLight x = new OwnLight();
            row(x, 2, 7, 8, 9);
            due(x.row(2, 1), 1);
            dueRow(x, 2, 0);
            due(x.row(2, 3), 3);
            dueRow(x, 2, 0, 0, 0);
        });
        test(2, "with n ints 0: none (n 0), yet it is there", () -> {
            OwnLight x = new OwnLight();
            due(x.row(2, 0), 0);
            due(x.count(6), 1);
            found(x, BEYOND, () -> x.at(2, 0));
            row(x, 2, 5);
            due(x.row(2, 0), 0);
            found(x, BEYOND, () -> x.at(2, 0));
        });
        test(2, "with n ints 0: 60", () -> {
            OwnLight x = new OwnLight();
            due(x.row(5, 60), 60);
            due(x, x.lay(5, 59, 3), 1, 0);
            due(x, x.at(5, 59), 1, 3);
            found(x, BEYOND, () -> x.at(5, 60));
        });
        test(2, "BAD: a ROW that is none", () -> {
            OwnLight x = new OwnLight();
            stays(x, BAD, () -> x.row(6, 0));
            stays(x, BAD, () -> x.row(-1, 0));
        });
        test(2, "BAD: also n above 60", () -> {
            OwnLight x = new OwnLight();
            row(x, 0, 4);
            stays(x, BAD, () -> x.row(0, 61));
            stays(x, BAD, () -> x.row(0, MOST));
            dueRow(x, 0, 4);
        });
        test(2, "SIZE: below 0", () -> {
            OwnLight x = new OwnLight();
            row(x, 0, 4);
            found(x, SIZE, () -> x.row(0, -1));
            found(x, SIZE, () -> x.row(0, LEAST));
            dueRow(x, 0, 4);
        });
        test(2, "SIZE: below 0, a missing one stays missing", () -> {
            OwnLight x = new OwnLight();
            found(x, SIZE, () -> x.row(0, -1));
            found(x, NOTHING, () -> x.tear(0));
        });
        test(2, "BAD ahead of SIZE", () -> {
            OwnLight x = new OwnLight();
            stays(x, BAD, () -> x.row(6, -1));
            stays(x, BAD, () -> x.row(-1, LEAST));
        });
    }

    private static void places() {
        test(3, "Place i of a ROW is v: what it was, told by asked(): 1", () -> {
            OwnLight x = new OwnLight();
            x.row(1, 3);
            due(x, x.lay(1, 1, 5), 1, 0);
            due(x, x.lay(1, 1, LEAST), 1, 5);
            due(x, x.lay(1, 1, MOST), 1, LEAST);
            due(x, x.lay(1, 0, -1), 1, 0);
            due(x, x.lay(1, 2, 6), 1, 0);
            dueRow(x, 1, -1, MOST, 6);
        });
        test(3, "BAD", () -> {
            OwnLight x = new OwnLight();
            x.row(0, 1);
            x.row(5, 1);
            stays(x, BAD, () -> x.lay(6, 0, 1));
            stays(x, BAD, () -> x.lay(-1, 0, 1));
            stays(x, BAD, () -> x.lay(LEAST, 0, 1));
        });
        test(3, "NOTHING", () -> {
            OwnLight x = new OwnLight();
            found(x, NOTHING, () -> x.lay(0, 0, 1));
            x.row(0, 1);
            x.tear(0);
            found(x, NOTHING, () -> x.lay(0, 0, 1));
        });
        test(3, "BEYOND: behind the last place", () -> {
            OwnLight x = new OwnLight();
            x.row(0, 3);
            due(x.lay(0, 2, 1), 1);
            found(x, BEYOND, () -> x.lay(0, 3, 1));
            found(x, BEYOND, () -> x.lay(0, MOST, 1));
        });
        test(3, "BEYOND: ahead of the first place", () -> {
            OwnLight x = new OwnLight();
            x.row(0, 3);
            found(x, BEYOND, () -> x.lay(0, -1, 1));
            found(x, BEYOND, () -> x.lay(0, LEAST, 1));
        });
        test(3, "BEYOND: an empty ROW, a full one", () -> {
            OwnLight x = new OwnLight();
            x.row(0, 0);
            found(x, BEYOND, () -> x.lay(0, 0, 1));
            x.row(1, 60);
            due(x.lay(1, 59, 1), 1);
            found(x, BEYOND, () -> x.lay(1, 60, 1));
        });
        test(3, "BAD ahead of BEYOND, NOTHING ahead of BEYOND", () -> {
            OwnLight x = new OwnLight();
            stays(x, BAD, () -> x.lay(6, -1, 1));
            found(x, NOTHING, () -> x.lay(0, -1, 1));
        });

        test(4, "Place i of a ROW, told by asked(): 1", () -> {
            OwnLight x = new OwnLight();
            row(x, 0, 3, LEAST, MOST);
            due(x, x.at(0, 0), 1, 3);
            due(x, x.at(0, 1), 1, LEAST);
            due(x, x.at(0, 2), 1, MOST);
        });
        test(4, "BAD", () -> {
            OwnLight x = new OwnLight();
            x.row(0, 1);
            x.row(5, 1);
            stays(x, BAD, () -> x.at(6, 0));
            stays(x, BAD, () -> x.at(-1, 0));
        });
        test(4, "NOTHING", () -> {
            OwnLight x = new OwnLight();
            found(x, NOTHING, () -> x.at(5, 0));
            found(x, NOTHING, () -> x.at(5, -1));
        });
        test(4, "BEYOND", () -> {
            OwnLight x = new OwnLight();
            row(x, 0, 3, -4);
            due(x.at(0, 1), 1);
            found(x, BEYOND, () -> x.at(0, 2));
            found(x, BEYOND, () -> x.at(0, -1));
            found(x, BEYOND, () -> x.at(0, MOST));
            found(x, BEYOND, () -> x.at(0, LEAST));
            x.row(0, 0);
            found(x, BEYOND, () -> x.at(0, 0));
        });

        test(5, "A ROW is missing: 1", () -> {
            OwnLight x = new OwnLight();
            row(x, 4, 1, 2);
            row(x, 3, 6);
            due(x.tear(4), 1);
            due(x.count(6), 1);
            found(x, NOTHING, () -> x.at(4, 0));
            dueRow(x, 3, 6);
        });
        test(5, "A ROW is missing: an empty one, too", () -> {
            OwnLight x = new OwnLight();
            x.row(5, 0);
            due(x.tear(5), 1);
            due(x.count(6), 0);
        });
        test(5, "BAD", () -> {
            OwnLight x = new OwnLight();
            x.row(0, 1);
            x.row(5, 1);
            stays(x, BAD, () -> x.tear(6));
            stays(x, BAD, () -> x.tear(-1));
        });
        test(5, "NOTHING", () -> {
            OwnLight x = new OwnLight();
            found(x, NOTHING, () -> x.tear(0));
            x.row(0, 1);
            due(x.tear(0), 1);
            found(x, NOTHING, () -> x.tear(0));
        });
    }

    private static void copies() {
        test(6, "n places of a ROW, from one on, come to those of another one from one on: 1", () -> {
            OwnLight x = new OwnLight();
            row(x, 0, 1, 2, 3, 4, 5);
            row(x, 1, 9, 9, 9, 9);
            x.at(1, 0);
            due(x, x.copy(0, 1, 1, 2, 2), 1, 9);
            dueRow(x, 1, 9, 9, 2, 3);
            dueRow(x, 0, 1, 2, 3, 4, 5);
        });
        test(6, "n places: all of them", () -> {
            OwnLight x = new OwnLight();
            row(x, 0, 1, 2, 3);
            x.row(1, 3);
            due(x.copy(0, 0, 1, 0, 3), 1);
            dueRow(x, 1, 1, 2, 3);
            x.row(2, 60);
            x.row(3, 60);
            x.lay(2, 0, 7);
            x.lay(2, 59, 8);
            due(x.copy(2, 0, 3, 0, 60), 1);
            due(x, x.at(3, 0), 1, 7);
            due(x, x.at(3, 59), 1, 8);
        });
        test(6, "perhaps itself, as if taken ahead: to places behind", () -> {
            OwnLight x = new OwnLight();
            row(x, 0, 1, 2, 3, 4, 5);
            due(x.copy(0, 0, 0, 1, 4), 1);
            dueRow(x, 0, 1, 1, 2, 3, 4);
        });
        test(6, "perhaps itself, as if taken ahead: to places ahead", () -> {
            OwnLight x = new OwnLight();
            row(x, 0, 1, 2, 3, 4, 5);
            due(x.copy(0, 1, 0, 0, 4), 1);
            dueRow(x, 0, 2, 3, 4, 5, 5);
        });
        test(6, "BAD: either", () -> {
            OwnLight x = new OwnLight();
            row(x, 0, 1);
            row(x, 5, 1);
            stays(x, BAD, () -> x.copy(6, 0, 0, 0, 1));
            stays(x, BAD, () -> x.copy(0, 0, 6, 0, 1));
            stays(x, BAD, () -> x.copy(-1, 0, 0, 0, 1));
            stays(x, BAD, () -> x.copy(0, 0, -1, 0, 1));
        });
        test(6, "SIZE: n below 0", () -> {
            OwnLight x = new OwnLight();
            row(x, 0, 1, 2);
            row(x, 1, 3, 4);
            found(x, SIZE, () -> x.copy(0, 0, 1, 0, -1));
            found(x, SIZE, () -> x.copy(0, 1, 1, 1, LEAST));
        });
        test(6, "NOTHING: either", () -> {
            OwnLight x = new OwnLight();
            row(x, 0, 1, 2);
            found(x, NOTHING, () -> x.copy(1, 0, 0, 0, 1));
            found(x, NOTHING, () -> x.copy(0, 0, 1, 0, 1));
            found(x, NOTHING, () -> x.copy(1, 0, 1, 0, 0));
        });
        test(6, "BEYOND: not so many there", () -> {
            OwnLight x = new OwnLight();
            row(x, 0, 1, 2, 3);
            row(x, 1, 4, 5, 6, 7);
            found(x, BEYOND, () -> x.copy(0, 0, 1, 0, 4));
            found(x, BEYOND, () -> x.copy(0, 1, 1, 0, 3));
            found(x, BEYOND, () -> x.copy(1, 0, 0, 0, 4));
            found(x, BEYOND, () -> x.copy(1, 0, 0, 1, 3));
            found(x, BEYOND, () -> x.copy(0, -1, 1, 0, 1));
            found(x, BEYOND, () -> x.copy(0, 0, 1, -1, 1));
        });
        test(6, "BEYOND: not so many there, where i + n or j + n would wrap around", () -> {
            OwnLight x = new OwnLight();
            row(x, 0, 1, 2, 3);
            row(x, 1, 4, 5, 6, 7);
            found(x, BEYOND, () -> x.copy(0, 1, 1, 1, MOST));
            found(x, BEYOND, () -> x.copy(0, MOST, 1, 0, 1));
            found(x, BEYOND, () -> x.copy(0, 0, 1, MOST, 1));
            found(x, BEYOND, () -> x.copy(0, MOST, 1, MOST, MOST));
            found(x, BEYOND, () -> x.copy(0, LEAST, 1, 0, MOST));
        });
        test(6, "also with n 0, if i, j is below 0", () -> {
            OwnLight x = new OwnLight();
            row(x, 0, 1, 2, 3);
            x.row(1, 0);
            found(x, BEYOND, () -> x.copy(0, -1, 1, 0, 0));
            found(x, BEYOND, () -> x.copy(0, 0, 1, -1, 0));
            found(x, BEYOND, () -> x.copy(0, LEAST, 1, 0, 0));
        });
        test(6, "also with n 0, if i, j is above its size", () -> {
            OwnLight x = new OwnLight();
            row(x, 0, 1, 2, 3);
            x.row(1, 0);
            found(x, BEYOND, () -> x.copy(0, 4, 1, 0, 0));
            found(x, BEYOND, () -> x.copy(0, 0, 1, 1, 0));
            found(x, BEYOND, () -> x.copy(0, MOST, 1, 0, 0));
        });
        test(6, "with n 0, i, j up to its size: 1, and nothing comes", () -> {
            OwnLight x = new OwnLight();
            row(x, 0, 1, 2, 3);
            x.row(1, 0);
            stays(x, 1, () -> x.copy(0, 3, 1, 0, 0));
            stays(x, 1, () -> x.copy(1, 0, 0, 3, 0));
            stays(x, 1, () -> x.copy(0, 0, 0, 1, 0));
        });
        test(6, "(In this order.)", () -> {
            OwnLight x = new OwnLight();
            row(x, 0, 1);
            stays(x, BAD, () -> x.copy(6, -1, 1, -1, -1));
            stays(x, BAD, () -> x.copy(1, -1, -1, -1, -1));
            found(x, SIZE, () -> x.copy(1, -1, 2, -1, -1));
            found(x, SIZE, () -> x.copy(0, 9, 0, 9, -1));
            found(x, NOTHING, () -> x.copy(1, -1, 0, 9, 0));
            found(x, NOTHING, () -> x.copy(0, 9, 1, -1, 9));
        });
    }

    private static void means() {
        test(7, "The mean of a ROW's ints, cut, told by asked(): 1", () -> {
            OwnLight x = new OwnLight();
            row(x, 0, 1, 2, 5);
            due(x, x.mean(0), 1, 2);
            row(x, 0, -1, -2, -5);
            due(x, x.mean(0), 1, -2);
            row(x, 0, 2, 3);
            due(x, x.mean(0), 1, 2);
            row(x, 0, -2, -3);
            due(x, x.mean(0), 1, -2);
            row(x, 0, -1, 0);
            due(x, x.mean(0), 1, 0);
        });
        test(7, "The mean of one int, of 60", () -> {
            OwnLight x = new OwnLight();
            row(x, 0, -9);
            due(x, x.mean(0), 1, -9);
            x.row(1, 60);
            x.lay(1, 59, 119);
            due(x, x.mean(1), 1, 1);
            x.lay(1, 0, 1);
            due(x, x.mean(1), 1, 2);
        });
        test(7, "The mean, where the ints' sum would wrap around", () -> {
            OwnLight x = new OwnLight();
            row(x, 0, MOST, MOST, MOST);
            due(x, x.mean(0), 1, MOST);
            row(x, 0, LEAST, LEAST);
            due(x, x.mean(0), 1, LEAST);
            row(x, 0, MOST, LEAST);
            due(x, x.mean(0), 1, 0);
        });
        test(7, "BAD", () -> {
            OwnLight x = new OwnLight();
            row(x, 0, 1);
            row(x, 5, 1);
            stays(x, BAD, () -> x.mean(6));
            stays(x, BAD, () -> x.mean(-1));
        });
        test(7, "NOTHING", () -> {
            OwnLight x = new OwnLight();
            found(x, NOTHING, () -> x.mean(0));
        });
        test(7, "NOUGHT", () -> {
            OwnLight x = new OwnLight();
            row(x, 1, 5);
            x.mean(1);
            x.row(0, 0);
            found(x, NOUGHT, () -> x.mean(0));
        });
    }

    private static void texts() {
        test(8, "A TEXT is there with n blanks: n", () -> {
            OwnLight x = new OwnLight();
            due(x.text(1, 3), 3);
            due(x.count(7), 1);
            due(x.put(1, 0, 1), 1032);
            due(x.put(1, 2, 1), 1032);
            due(x.text(1, 3), 3);
            due(x.put(1, 0, 1), 1032);
            due(x.put(1, 2, 1), 1032);
        });
        test(8, "with n blanks: shorter, then longer again", () -> {
            OwnLight x = new OwnLight();
            x.text(1, 2);
            x.put(1, 1, 7);
            x.text(1, 1);
            found(x, BEYOND, () -> x.put(1, 1, 8));
            x.text(1, 2);
            due(x.put(1, 1, 8), 1032);
        });
        test(8, "with n blanks: none (n 0), yet it is there", () -> {
            OwnLight x = new OwnLight();
            due(x.text(0, 0), 0);
            due(x.count(7), 1);
            found(x, BEYOND, () -> x.put(0, 0, 1));
        });
        test(8, "with n blanks: 80", () -> {
            OwnLight x = new OwnLight();
            due(x.text(3, 80), 80);
            due(x.put(3, 79, 5), 1032);
            due(x.put(3, 79, 5), 1005);
            found(x, BEYOND, () -> x.put(3, 80, 5));
        });
        test(8, "BAD: a TEXT that is none", () -> {
            OwnLight x = new OwnLight();
            stays(x, BAD, () -> x.text(4, 0));
            stays(x, BAD, () -> x.text(-1, 0));
        });
        test(8, "BAD: also n above 80", () -> {
            OwnLight x = withText(new OwnLight(), 0, "g21D.");
            stays(x, BAD, () -> x.text(0, 81));
            stays(x, BAD, () -> x.text(0, MOST));
            stays(x, BAD, () -> x.text(1, 81));
        });
        test(8, "SIZE: below 0", () -> {
            OwnLight x = withText(new OwnLight(), 0, "g21D.");
            found(x, SIZE, () -> x.text(0, -1));
            found(x, SIZE, () -> x.text(1, LEAST));
        });
        test(8, "BAD ahead of SIZE", () -> {
            OwnLight x = new OwnLight();
            stays(x, BAD, () -> x.text(4, -1));
            stays(x, BAD, () -> x.text(-1, -1));
        });

        test(9, "Byte i of a TEXT is v: what it was, and 1000 more", () -> {
            OwnLight x = new OwnLight();
            x.text(2, 3);
            due(x.put(2, 0, 65), 1032);
            due(x.put(2, 0, 66), 1065);
            due(x.put(2, 2, 0), 1032);
            due(x.put(2, 2, 1), 1000);
            due(x.put(2, 1, 1), 1032);
        });
        test(9, "cut to a byte: -128 and 127 are kept", () -> {
            OwnLight x = new OwnLight();
            x.text(2, 1);
            x.put(2, 0, 127);
            due(x.put(2, 0, -128), 1127);
            due(x.put(2, 0, 0), 872);
        });
        test(9, "cut to a byte: 128 is -128, -129 is 127", () -> {
            OwnLight x = new OwnLight();
            x.text(2, 1);
            x.put(2, 0, 128);
            due(x.put(2, 0, -129), 872);
            due(x.put(2, 0, 0), 1127);
        });
        test(9, "cut to a byte: 255 is -1, 256 is 0", () -> {
            OwnLight x = new OwnLight();
            x.text(2, 1);
            x.put(2, 0, 255);
            due(x.put(2, 0, 256), 999);
            due(x.put(2, 0, 257), 1000);
            due(x.put(2, 0, 0), 1001);
        });
        test(9, "cut to a byte: an int's least is 0, its most -1", () -> {
            OwnLight x = new OwnLight();
            x.text(2, 1);
            x.put(2, 0, LEAST);
            due(x.put(2, 0, MOST), 1000);
            due(x.put(2, 0, 0), 999);
        });
        test(9, "cut to a byte, which a TOWN is read by", () -> {
            OwnLight x = withText(new OwnLight(), 0, "g21D.");
            x.put(0, 0, 'g' + 256);
            x.put(0, 3, 'D' - 512);
            due(x.fault(0), NONE);
        });
        test(9, "BAD", () -> {
            OwnLight x = withText(withText(new OwnLight(), 0, "a"), 3, "a");
            stays(x, BAD, () -> x.put(4, 0, 1));
            stays(x, BAD, () -> x.put(-1, 0, 1));
            stays(x, BAD, () -> x.put(MOST, 0, 1));
        });
        test(9, "NOTHING", () -> {
            OwnLight x = new OwnLight();
            found(x, NOTHING, () -> x.put(3, 0, 1));
            found(x, NOTHING, () -> x.put(0, -1, 1));
        });
        test(9, "BEYOND", () -> {
            OwnLight x = new OwnLight();
            x.text(2, 2);
            due(x.put(2, 1, 7), 1032);
            found(x, BEYOND, () -> x.put(2, 2, 1));
            found(x, BEYOND, () -> x.put(2, -1, 1));
            found(x, BEYOND, () -> x.put(2, MOST, 1));
            found(x, BEYOND, () -> x.put(2, LEAST, 1));
            due(x.put(2, 1, 7), 1007);
        });
    }

    public static void main(String[] args) {
        terms();
        newObject();
        rows();
        places();
        copies();
        means();
        texts();
        end();
    }
}
