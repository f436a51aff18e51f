/** Promises 1 to 10: a new object, and what is done with the film. */
public final class FilmTest {
    private FilmTest() {
    }

    public static void main(String[] args) {
        newObject();
        addScene();
        cut();
        join();
        takeOut();
        putIn();
        move();
        movedSplices();
        tear();
        patch();
        splice();
        Due.end();
    }

    private static void newObject() {
        Due.at("promise 1");
        Played x = new Played();
        int[] counts = {0, 0, 0, 0, 0, 0, 0, 0, 3, 5, 0, 0, 0, 0};
        for (int what = 0; what < counts.length; what++) {
            Due.due("count(" + what + ")", x.count(what), counts[what]);
        }
        Due.due("scene(0, 0)", x.scene(0, 0), Due.UNKNOWN);
        Due.due("piece(0, 0)", x.piece(0, 0), Due.UNKNOWN);
        Due.due("canned(0, 0)", x.canned(0, 0), Due.UNKNOWN);
        Due.due("show(0, 0)", x.show(0, 0), Due.UNKNOWN);
        Due.due("witness(0, 0)", x.witness(0, 0), Due.UNKNOWN);
        Due.due("frameAt(0)", x.frameAt(0), Due.NONE);
        Due.due("undo()", x.undo(), Due.NONE);
        Due.due("restore()", x.restore(), Due.NONE);
        Played y = new Played();
        y.addScene(1, 5);
        Due.due("another object's count(0)", x.count(0), 0);
    }

    private static void addScene() {
        Due.at("promise 2");
        Played x = new Played();
        for (int bad : new int[] {-1, 6, Integer.MIN_VALUE, Integer.MAX_VALUE}) {
            Due.refused(x, "addScene(" + bad + ", 1)", Due.BAD_VALUE, r -> r.addScene(bad, 1));
        }
        for (int bad : new int[] {0, 41, -1, Integer.MIN_VALUE, Integer.MAX_VALUE}) {
            Due.refused(x, "addScene(0, " + bad + ")", Due.BAD_VALUE, r -> r.addScene(0, bad));
        }
        for (int i = 0; i < 12; i++) {
            Due.due("addScene", x.addScene(i % 6, i == 0 ? 40 : i), i);
        }
        Due.due("reel", x.reel(), "0:0-39 1:0-0 2:0-1 3:0-2 4:0-3 5:0-4 6:0-5 7:0-6 8:0-7 9:0-8 10:0-9 11:0-10");
        Due.due("scene(7, 0)", x.scene(7, 0), 1);
        Due.due("history", x.count(12), 4);
        Due.refused(x, "a 13th scene", Due.FULL, r -> r.addScene(0, 1));
        Due.refused(x, "a bad 13th scene", Due.BAD_VALUE, r -> r.addScene(6, 1));
        Played y = new Played();
        y.addScene(0, 20);
        for (int i = 1; i < 20; i++) {
            y.cut(i);
        }
        Due.refused(y, "a 21st piece", Due.FULL, r -> r.addScene(0, 1));
        y.takeOut(3);
        Due.due("a 20th piece", y.addScene(5, 2), 1);
        Due.due("the last piece", y.piece(19, 0), 1);
        y.undo();
        y.tear(0, 0, 0);
        Due.due("again", y.addScene(4, 3), 1);
        Due.due("fresh holes", y.scene(1, 4), 0);
    }

    private static void cut() {
        Due.at("promise 3");
        Played x = new Played();
        Due.refused(x, "cut(0) of nothing", Due.BAD_VALUE, r -> r.cut(0));
        x.addScene(0, 5);
        x.addScene(1, 4);
        for (int bad : new int[] {-1, 9, Integer.MIN_VALUE, Integer.MAX_VALUE}) {
            Due.refused(x, "cut(" + bad + ")", Due.BAD_VALUE, r -> r.cut(bad));
        }
        Due.refused(x, "cut(0)", Due.NONE, r -> r.cut(0));
        Due.refused(x, "cut(5)", Due.NONE, r -> r.cut(5));
        x.run();
        Due.due("cut(8)", x.cut(8), 2);
        Due.due("reel", x.reel(), "0:0-4 1:0-2/1 1:3-3");
        x.run();
        Due.due("cut(6)", x.cut(6), 2);
        Due.due("a cut leaves the other splices", x.reel(), "0:0-4 1:0-0/2 1:1-2 1:3-3/1");
        Due.due("history", x.count(12), 4);
        x = new Played();
        x.addScene(0, 40);
        for (int i = 1; i < 20; i++) {
            Due.due("cut", x.cut(2 * i), i);
        }
        Due.refused(x, "a 21st piece", Due.FULL, r -> r.cut(1));
        Due.refused(x, "no 21st piece", Due.NONE, r -> r.cut(2));
        Due.refused(x, "no such place", Due.BAD_VALUE, r -> r.cut(40));
        Due.refused(x, "join the last of 20", Due.NOT_POSSIBLE, r -> r.join(19));
    }

    private static void join() {
        Due.at("promise 4");
        Played x = new Played();
        Due.refused(x, "join(0) of nothing", Due.UNKNOWN, r -> r.join(0));
        x.addScene(0, 6);
        x.addScene(0, 2);
        x.cut(2);
        x.cut(4);
        x.run();
        for (int bad : new int[] {-1, 4, Integer.MIN_VALUE, Integer.MAX_VALUE}) {
            Due.refused(x, "join(" + bad + ")", Due.UNKNOWN, r -> r.join(bad));
        }
        Due.refused(x, "join the last", Due.NOT_POSSIBLE, r -> r.join(3));
        Due.refused(x, "join another scene", Due.NOT_POSSIBLE, r -> r.join(2));
        Due.due("join(1)", x.join(1), 4);
        Due.due("joined", x.reel(), "0:0-1 0:2-5/1 1:0-1/1");
        Due.due("join(0)", x.join(0), 6);
        Due.due("joined", x.reel(), "0:0-5 1:0-1/1");
        x.undo();
        x.undo();
        x.takeOut(1);
        Due.due("a gap", x.reel(), "0:0-1 0:4-5 1:0-1/1");
        Due.refused(x, "join over a gap", Due.NOT_POSSIBLE, r -> r.join(0));
        x.move(0, 1);
        Due.refused(x, "join the wrong way round", Due.NOT_POSSIBLE, r -> r.join(0));
        Played y = new Played();
        y.addScene(0, 2);
        y.addScene(0, 4);
        y.cut(4);
        y.move(1, 2);
        Due.due("the next frame of another scene", y.reel(), "0:0-1 1:2-3 1:0-1");
        Due.refused(y, "join the next frame of another scene", Due.NOT_POSSIBLE, r -> r.join(0));
    }

    private static void takeOut() {
        Due.at("promise 5");
        Played x = new Played();
        Due.refused(x, "takeOut(0) of nothing", Due.UNKNOWN, r -> r.takeOut(0));
        x.addScene(0, 3);
        x.addScene(1, 3);
        x.addScene(2, 3);
        x.addScene(3, 3);
        x.run();
        for (int bad : new int[] {-1, 4, Integer.MIN_VALUE, Integer.MAX_VALUE}) {
            Due.refused(x, "takeOut(" + bad + ")", Due.UNKNOWN, r -> r.takeOut(bad));
        }
        Due.due("takeOut(1)", x.takeOut(1), 3);
        Due.due("reel", x.reel(), "0:0-2 2:0-2 3:0-2/1");
        Due.due("takeOut(0)", x.takeOut(0), 2);
        Due.due("reel", x.reel(), "2:0-2 3:0-2/1");
        Due.due("can", x.can(), "1:0-2 0:0-2");
        Due.due("takeOut(0)", x.takeOut(0), 1);
        Due.due("the first splice", x.reel(), "3:0-2");
        Due.due("takeOut(0)", x.takeOut(0), 0);
        Due.due("history", x.count(12), 4);
        Due.due("can", x.can(), "1:0-2 0:0-2 2:0-2 3:0-2");
        Played y = new Played();
        y.addScene(0, 22);
        for (int i = 0; i < 20; i++) {
            y.cut(1);
            Due.due("takeOut", y.takeOut(0), 1);
        }
        Due.refused(y, "a 21st piece in the can", Due.FULL, r -> r.takeOut(0));
        Due.refused(y, "no piece, the can full", Due.UNKNOWN, r -> r.takeOut(1));
    }

    private static void putIn() {
        Due.at("promise 6");
        Played x = new Played();
        x.addScene(0, 3);
        x.addScene(1, 3);
        x.addScene(2, 3);
        Due.refused(x, "putIn(0, 0) of nothing", Due.UNKNOWN, r -> r.putIn(0, 0));
        x.run();
        x.takeOut(0);
        x.takeOut(0);
        for (int bad : new int[] {-1, 2, Integer.MIN_VALUE, Integer.MAX_VALUE}) {
            Due.refused(x, "putIn(" + bad + ", 0)", Due.UNKNOWN, r -> r.putIn(bad, 0));
            Due.refused(x, "putIn(" + bad + ", 9)", Due.UNKNOWN, r -> r.putIn(bad, 9));
            Due.refused(x, "putIn(0, " + bad + ")", Due.BAD_VALUE, r -> r.putIn(0, bad));
        }
        Due.due("putIn(0, 1)", x.putIn(0, 1), 1);
        Due.due("reel", x.reel(), "2:0-2 0:0-2");
        Due.due("can", x.can(), "1:0-2");
        x.run();
        Due.due("putIn(0, 1)", x.putIn(0, 1), 0);
        Due.due("two new splices", x.reel(), "2:0-2 1:0-2 0:0-2");
        x.run();
        x.takeOut(2);
        Due.due("putIn(0, 0)", x.putIn(0, 0), 0);
        Due.due("the first place", x.reel(), "0:0-2 2:0-2 1:0-2/1");
        x.takeOut(2);
        Due.due("putIn(0, 2)", x.putIn(0, 2), 0);
        Due.due("back with a new splice", x.reel(), "0:0-2 2:0-2 1:0-2");
        x.takeOut(0);
        for (int i = 0; i < 18; i++) {
            x.addScene(0, i < 9 ? 9 : 40);
        }
        for (int i = 1; i < 9; i++) {
            x.cut(6 + i);
        }
        Due.due("pieces", x.count(1), 19);
        x.putIn(0, 19);
        x.undo();
        x.cut(16);
        Due.refused(x, "a 21st piece", Due.FULL, r -> r.putIn(0, 0));
        Due.refused(x, "no such piece, and full", Due.UNKNOWN, r -> r.putIn(1, 0));
        Due.refused(x, "no such place, and full", Due.BAD_VALUE, r -> r.putIn(0, 21));
        Due.refused(x, "the last place, and full", Due.FULL, r -> r.putIn(0, 20));
    }

    private static void move() {
        Due.at("promise 7");
        Played x = new Played();
        Due.refused(x, "move(0, 0) of nothing", Due.UNKNOWN, r -> r.move(0, 0));
        for (int i = 0; i < 5; i++) {
            x.addScene(0, i + 1);
        }
        for (int bad : new int[] {-1, 5, Integer.MIN_VALUE, Integer.MAX_VALUE}) {
            Due.refused(x, "move(" + bad + ", 0)", Due.UNKNOWN, r -> r.move(bad, 0));
            Due.refused(x, "move(0, " + bad + ")", Due.UNKNOWN, r -> r.move(0, bad));
            Due.refused(x, "move both " + bad, Due.UNKNOWN, r -> r.move(bad, bad));
        }
        Due.refused(x, "move(2, 2)", Due.NONE, r -> r.move(2, 2));
        Due.due("move(0, 4)", x.move(0, 4), 14);
        Due.due("reel", x.reel(), "1:0-1 2:0-2 3:0-3 4:0-4 0:0-0");
        Due.due("move(4, 1)", x.move(4, 1), 2);
        Due.due("reel", x.reel(), "1:0-1 0:0-0 2:0-2 3:0-3 4:0-4");
        Due.due("move(1, 0)", x.move(1, 0), 0);
        Due.due("move(3, 2)", x.move(3, 2), 3);
        Due.due("reel", x.reel(), "0:0-0 1:0-1 3:0-3 2:0-2 4:0-4");
        Due.due("history", x.count(12), 4);
    }

    private static void movedSplices() {
        Due.at("promise 7, splices");
        Played x = new Played();
        for (int i = 0; i < 6; i++) {
            x.addScene(0, 1);
        }
        x.run();
        Due.due("reel", x.reel(), "0:0-0 1:0-0/1 2:0-0/1 3:0-0/1 4:0-0/1 5:0-0/1");
        x.move(1, 3);
        Due.due("on", x.reel(), "0:0-0 2:0-0 3:0-0/1 1:0-0 4:0-0 5:0-0/1");
        x.undo();
        x.move(4, 2);
        Due.due("back", x.reel(), "0:0-0 1:0-0/1 4:0-0 2:0-0 3:0-0/1 5:0-0");
        x.undo();
        x.move(1, 0);
        Due.due("to the first place", x.reel(), "1:0-0 0:0-0 2:0-0 3:0-0/1 4:0-0/1 5:0-0/1");
        x.undo();
        x.move(0, 5);
        Due.due("from the first place", x.reel(), "1:0-0 2:0-0/1 3:0-0/1 4:0-0/1 5:0-0/1 0:0-0");
    }

    private static void tear() {
        Due.at("promise 8");
        Played x = new Played();
        Due.refused(x, "tear(0, 0, 0) of nothing", Due.UNKNOWN, r -> r.tear(0, 0, 0));
        x.addScene(0, 3);
        x.addScene(0, 1);
        for (int bad : Due.WILD) {
            Due.refused(x, "tear(" + bad + ", 0, 0)", Due.UNKNOWN, r -> r.tear(bad, 0, 0));
            Due.refused(x, "tear(0, " + bad + ", 0)", Due.UNKNOWN, r -> r.tear(0, bad, 0));
            Due.refused(x, "tear(0, 3, " + bad + ")", Due.UNKNOWN, r -> r.tear(0, 3, bad));
            Due.refused(x, "tear(0, 2, " + bad + ")", Due.BAD_VALUE, r -> r.tear(0, 2, bad));
        }
        Due.refused(x, "tear(2, 0, 0)", Due.UNKNOWN, r -> r.tear(2, 0, 0));
        Due.refused(x, "tear(1, 1, 0)", Due.UNKNOWN, r -> r.tear(1, 1, 0));
        Due.refused(x, "tear(0, 2, 4)", Due.BAD_VALUE, r -> r.tear(0, 2, 4));
        int[] holes = {3, 0, 2, 1};
        for (int i = 0; i < 4; i++) {
            Due.due("tear", x.tear(0, 2, holes[i]), 3 - i);
            int hole = holes[i];
            Due.refused(x, "tear again", Due.NONE, r -> r.tear(0, 2, hole));
        }
        Due.due("frame(0, 2, 1)", x.frame(0, 2, 1), 15);
        Due.due("frame(0, 1, 1)", x.frame(0, 1, 1), 0);
        Due.due("frame(1, 0, 1)", x.frame(1, 0, 1), 0);
        x.takeOut(0);
        Due.due("tear in the can", x.tear(0, 0, 1), 3);
        Due.due("its bits", x.frame(0, 0, 1), 2);
        Due.due("history", x.count(12), 4);
    }

    private static void patch() {
        Due.at("promise 9");
        Played x = new Played();
        Due.refused(x, "patch(0, 0) of nothing", Due.UNKNOWN, r -> r.patch(0, 0));
        x.addScene(0, 3);
        for (int bad : new int[] {-1, 1, Integer.MIN_VALUE, Integer.MAX_VALUE}) {
            Due.refused(x, "patch(" + bad + ", 0)", Due.UNKNOWN, r -> r.patch(bad, 0));
        }
        for (int bad : new int[] {-1, 3, Integer.MIN_VALUE, Integer.MAX_VALUE}) {
            Due.refused(x, "patch(0, " + bad + ")", Due.UNKNOWN, r -> r.patch(0, bad));
        }
        Due.refused(x, "patch(0, 1)", Due.NONE, r -> r.patch(0, 1));
        x.tear(0, 1, 0);
        x.tear(0, 1, 3);
        x.tear(0, 2, 3);
        x.run();
        Due.due("patch(0, 1)", x.patch(0, 1), 2);
        Due.due("its holes", x.frame(0, 1, 1), 0);
        Due.due("its passes", x.frame(0, 1, 2), 1);
        Due.due("the other's holes", x.frame(0, 2, 1), 8);
        Due.refused(x, "patch(0, 1)", Due.NONE, r -> r.patch(0, 1));
        for (int hole = 0; hole < 4; hole++) {
            x.tear(0, 0, hole);
        }
        Due.due("patch(0, 0)", x.patch(0, 0), 4);
        x.undo();
        Due.due("torn again", x.frame(0, 0, 1), 15);
    }

    private static void splice() {
        Due.at("promise 10");
        Played x = new Played();
        Due.refused(x, "splice(0) of nothing", Due.UNKNOWN, r -> r.splice(0));
        x.addScene(0, 3);
        x.addScene(0, 3);
        x.addScene(0, 3);
        Due.refused(x, "splice(1)", Due.NONE, r -> r.splice(1));
        x.run();
        x.run();
        for (int bad : new int[] {-1, 3, Integer.MIN_VALUE, Integer.MAX_VALUE}) {
            Due.refused(x, "splice(" + bad + ")", Due.UNKNOWN, r -> r.splice(bad));
        }
        Due.refused(x, "splice(0)", Due.NONE, r -> r.splice(0));
        Due.due("splice(1)", x.splice(1), 2);
        Due.due("reel", x.reel(), "0:0-2 1:0-2 2:0-2/2");
        Due.due("history", x.count(12), 4);
        x.undo();
        Due.due("undone", x.reel(), "0:0-2 1:0-2/2 2:0-2/2");
    }
}
