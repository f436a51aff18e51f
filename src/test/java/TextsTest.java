/** Promises 15 to 17: typing, clearing and edits. */
public final class TextsTest {
    private TextsTest() {
    }

    public static void main(String[] args) {
        type();
        clearText();
        faults();
        edits();
        refusedEdits();
        longEdits();
        Due.end();
    }

    private static void type() {
        Due.at("promise 15");
        Played x = new Played();
        for (int i = 1; i <= 60; i++) {
            Due.due("type", x.type((char) (i == 5 ? 0 : i == 6 ? 65535 : i)), i);
        }
        Due.refused(x, "a 61st character", Due.FULL, r -> r.type('c'));
        Due.due("no act", x.count(12), 0);
        Due.due("length", x.count(13), 60);
        Played y = new Played();
        y.addScene(0, 3);
        y.type('c');
        y.type('1');
        y.undo();
        Due.due("undo leaves the text", y.count(13), 2);
        y.keep();
        y.type('2');
        y.restore();
        Due.due("restore leaves the text", y.count(13), 3);
        Due.due("the whole text", y.edit(), Due.BAD_VALUE);
    }

    private static void clearText() {
        Due.at("promise 16");
        Played x = new Played();
        Due.due("clearText()", x.clearText(), 0);
        Due.write(x, "c1;c2");
        Due.due("clearText()", x.clearText(), 5);
        Due.due("clearText()", x.clearText(), 0);
        Due.due("length", x.count(13), 0);
        Due.due("no act", x.count(12), 0);
        x.addScene(0, 9);
        Due.write(x, "c3");
        Due.due("the new text only", x.edit(), 1);
        Due.due("reel", x.reel(), "0:0-2 0:3-8");
    }

    private static void faults() {
        Due.at("promise 17, faults");
        Object[][] faults = {{"", 0}, {" ", 0}, {"x1", 0}, {";", 0}, {"C1", 0}, {"1", 0}, {",", 0},
            {"c", 1}, {"c,", 1}, {"c;", 1}, {"cc", 1}, {"c-1", 1}, {"c 1", 1}, {"c" + (char) 0x661, 1},
            {"c1;", 3}, {"c1;;", 3}, {"c1c", 2}, {"c1,", 2}, {"c1,2", 2}, {"j1,2", 2}, {"o1,2", 2},
            {"c1 ", 2}, {"c12:", 3}, {"c1/", 2}, {"c03", 2}, {"c00", 2}, {"c0", -1}, {"c10", -1},
            {"c999", -1}, {"c1000", 4}, {"c0999", 2}, {"m1", 2}, {"m1;", 2}, {"m12", 3}, {"m1,", 3},
            {"m1,,", 3}, {"m1,;", 3}, {"m,1", 1}, {"m1,2,", 4}, {"m1,2,3", 4}, {"m1,02", 4},
            {"m01,2", 2}, {"m1,1234", 6}, {"i1", 2}, {"i0,00", 4}, {"i1,2;x", 5}, {"i1,2;", 5},
            {"i0;i0,0", 2}, {"i123,456;j7;o8;c9;m0,", 21}, {"i1234", 4}, {"c1;j0;o0;i0,0;m0,0;a", 19},
            {"c1\n", 2}, {"" + (char) 0, 0}, {"c" + (char) 353 + "1", 1}, {(char) 355 + "1", 0}};
        for (Object[] fault : faults) {
            Played x = new Played();
            x.addScene(0, 3);
            int want = (Integer) fault[1];
            if (want >= 0) {
                Due.write(x, (String) fault[0]);
                Due.refused(x, "edit() of '" + fault[0] + "'", -100 - want, Face::edit);
            } else {
                Due.due("no fault in " + fault[0], Due.edit(x, (String) fault[0]) > -100, true);
            }
        }
    }

    private static void edits() {
        Due.at("promise 17");
        Played x = new Played();
        x.addScene(0, 10);
        x.addScene(1, 2);
        x.run();
        Due.due("edit()", Due.edit(x, "c3;c6;m0,2;o1;i0,0"), 5);
        Due.due("reel", x.reel(), "0:6-9 0:3-5 0:0-2 1:0-1");
        Due.due("one act", x.count(12), 4);
        Due.due("the text stays", x.count(13), 18);
        x.undo();
        Due.due("undone at once", x.reel(), "0:0-9 1:0-1/1");
        Due.due("a piece put back has new splices", Due.edit(x, "o1;i0,1"), 2);
        Due.due("reel", x.reel(), "0:0-9 1:0-1");
        x.undo();
        Due.due("cut and joined", Due.edit(x, "c5;j0"), 2);
        Due.due("reel", x.reel(), "0:0-9 1:0-1/1");
        x.undo();
        int states = x.count(12);
        Due.due("nothing is done", Due.edit(x, "c0;m1,1;c10"), 3);
        Due.due("but it is an act", x.count(12), states + 1);
        Due.due("reel", x.reel(), "0:0-9 1:0-1/1");
        Due.due("the same text again", x.edit(), 3);
        Played y = new Played();
        y.addScene(0, 12);
        Due.due("NONE, then an edit", Due.edit(y, "c0;c11;c10"), 3);
        Due.due("reel", y.reel(), "0:0-9 0:10-10 0:11-11");
        Due.due("joins", Due.edit(y, "j0;j0"), 2);
        Due.due("reel", y.reel(), "0:0-11");
        Due.due("to the can", Due.edit(y, "c4;o0;o0"), 3);
        Due.due("can", y.can(), "0:0-3 0:4-11");
        Due.due("and back", Due.edit(y, "i1,0;i0,1"), 2);
        Due.due("reel", y.reel(), "0:4-11 0:0-3");
    }

    private static void refusedEdits() {
        Due.at("promise 17, refused");
        Object[][] edits = {{"c12", Due.BAD_VALUE}, {"c999", Due.BAD_VALUE}, {"j0", Due.NOT_POSSIBLE},
            {"j2", Due.UNKNOWN}, {"o2", Due.UNKNOWN}, {"i0,0", Due.UNKNOWN}, {"o0;i0,2", Due.BAD_VALUE},
            {"m0,2", Due.UNKNOWN}, {"m2,0", Due.UNKNOWN}, {"m2,2", Due.UNKNOWN},
            {"c5;c6;j2", Due.NOT_POSSIBLE}, {"c0;j1", Due.NOT_POSSIBLE}, {"o0;o0;o0;c0", Due.UNKNOWN},
            {"o0;o0;c0", Due.BAD_VALUE}, {"c1;c1;c2;j9;c999", Due.UNKNOWN}};
        for (Object[] edit : edits) {
            Played x = new Played();
            x.addScene(0, 10);
            x.addScene(1, 2);
            x.run();
            Due.write(x, (String) edit[0]);
            Due.refused(x, "edit() of " + edit[0], (Integer) edit[1], Face::edit);
        }
        Played x = new Played();
        x.addScene(0, 40);
        for (int i = 1; i < 19; i++) {
            x.cut(i);
        }
        Due.write(x, "c20;c19;c30");
        Due.refused(x, "too many cuts", Due.FULL, Face::edit);
        Due.due("cuts that are there are none", Due.edit(x, "c20;c19;c1"), Due.FULL);
        Due.due("up to 20", Due.edit(x, "c19;c19;c1"), 3);
        x.undo();
        x.undo();
        Due.due("the history is as it was", x.count(1), 18);
    }

    private static void longEdits() {
        Due.at("promise 17, 60 characters");
        Played x = new Played();
        x.addScene(0, 9);
        StringBuilder text = new StringBuilder("c0");
        for (int i = 1; i < 20; i++) {
            text.append(";c").append(i % 9);
        }
        Due.due("20 edits", Due.edit(x, text.toString()), 20);
        Due.due("pieces", x.count(1), 9);
        x.type(';');
        Due.refused(x, "a sign more", -160, Face::edit);
        Due.refused(x, "no place for it", Due.FULL, r -> r.type('c'));
        Due.due("still", x.edit(), -160);
        x.clearText();
        Due.write(x, text.toString());
        x.type('0');
        Due.refused(x, "a digit more", Due.BAD_VALUE, Face::edit);
        x.clearText();
        Due.write(x, "c0;" + text.substring(3) + "x");
        Due.refused(x, "the last character", -159, Face::edit);
    }
}
