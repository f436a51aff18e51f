/** Promises 11 to 14: dislikes, settings, shows and witnesses. */
public final class ShowsTest {
    private ShowsTest() {
    }

    public static void main(String[] args) {
        dislike();
        set();
        run();
        runWinds();
        runTears();
        runBreaks();
        runIsFull();
        addWitness();
        Due.end();
    }

    private static void dislike() {
        Due.at("promise 11");
        Played x = new Played();
        for (int bad : new int[] {-1, 6, 32, Integer.MIN_VALUE, Integer.MAX_VALUE}) {
            Due.refused(x, "dislike(" + bad + ", true)", Due.BAD_VALUE, r -> r.dislike(bad, true));
            Due.refused(x, "dislike(" + bad + ", false)", Due.BAD_VALUE, r -> r.dislike(bad, false));
        }
        Due.refused(x, "dislike(3, false)", Due.NONE, r -> r.dislike(3, false));
        Due.due("dislike(3, true)", x.dislike(3, true), 1);
        Due.refused(x, "dislike(3, true)", Due.NONE, r -> r.dislike(3, true));
        Due.due("dislike(0, true)", x.dislike(0, true), 2);
        Due.due("dislike(5, true)", x.dislike(5, true), 3);
        Due.due("bits", x.count(7), 41);
        Due.due("dislike(3, false)", x.dislike(3, false), 2);
        Due.due("bits", x.count(7), 33);
        Due.due("history", x.count(12), 4);
    }

    private static void set() {
        Due.at("promise 12");
        Played x = new Played();
        for (int bad : new int[] {-1, 2, Integer.MIN_VALUE, Integer.MAX_VALUE}) {
            Due.refused(x, "set(" + bad + ", 4)", Due.BAD_VALUE, r -> r.set(bad, 4));
        }
        for (int bad : new int[] {-1, 21, Integer.MIN_VALUE, Integer.MAX_VALUE}) {
            Due.refused(x, "set(0, " + bad + ")", Due.BAD_VALUE, r -> r.set(0, bad));
            Due.refused(x, "set(1, " + bad + ")", Due.BAD_VALUE, r -> r.set(1, bad));
        }
        Due.refused(x, "set(1, 0)", Due.BAD_VALUE, r -> r.set(1, 0));
        Due.refused(x, "set(0, 3)", Due.NONE, r -> r.set(0, 3));
        Due.refused(x, "set(1, 5)", Due.NONE, r -> r.set(1, 5));
        Due.due("set(0, 0)", x.set(0, 0), 3);
        Due.due("set(0, 20)", x.set(0, 20), 0);
        Due.due("set(1, 1)", x.set(1, 1), 5);
        Due.due("set(1, 20)", x.set(1, 20), 1);
        Due.due("energy", x.count(8), 20);
        Due.due("limit", x.count(9), 20);
        Due.due("history", x.count(12), 4);
        x.undo();
        Due.due("limit", x.count(9), 1);
    }

    private static void run() {
        Due.at("promise 13");
        Played x = new Played();
        Due.refused(x, "run() of nothing", Due.NOT_POSSIBLE, Face::run);
        x.addScene(0, 3);
        x.tear(0, 1, 0);
        x.tear(0, 1, 1);
        Due.due("run()", x.run(), 0);
        Due.due("two good holes", Due.numbersOfShow(x, 0), "[3, 3, 0, 0, 10, 0, -5, 0]");
        x.tear(0, 1, 2);
        Due.due("run()", x.run(), 1);
        Due.due("one good hole", Due.numbersOfShow(x, 1), "[3, 2, 1, 0, 9, 0, -5, 0]");
        Due.due("dark", x.seen(1, 1), Due.NONE);
        Due.due("light", x.seen(1, 2), 2);
        Due.due("passes", x.frame(0, 0, 2), 2);
        x.tear(0, 1, 3);
        x.run();
        Due.due("no good hole", Due.numbersOfShow(x, 2), "[3, 2, 1, 0, 8, 0, -5, 0]");
        Due.due("an earlier show", Due.numbersOfShow(x, 1), "[3, 2, 1, 0, 9, 0, -5, 0]");
        x.undo();
        x.undo();
        Due.due("undone", x.count(5), 2);
        Due.due("passes", x.frame(0, 0, 2), 2);
        Due.due("run() again", x.run(), 2);
        x.takeOut(0);
        Due.refused(x, "run() of the can", Due.NOT_POSSIBLE, Face::run);
    }

    private static void runWinds() {
        Due.at("promise 13, winding");
        int[] frames = {1, 2, 4, 5, 8, 9, 40};
        int[] units = {1, 1, 1, 2, 2, 3, 10};
        for (int i = 0; i < frames.length; i++) {
            Played x = new Played();
            x.addScene(2, frames[i]);
            x.dislike(2, true);
            x.run();
            int holes = 4 * frames[i];
            Due.due(frames[i] + " frames wound", Due.numbersOfShow(x, 0), "[" + units[i] + ", 0, 0, "
                    + frames[i] + ", " + holes / 2 + ", " + holes / 2 + ", -5, 1]");
            Due.due("dark", x.seen(0, units[i] - 1), Due.NONE);
            Due.due("passes", x.frame(0, frames[i] - 1, 2), 1);
        }
        Played x = new Played();
        for (int i = 0; i < 4; i++) {
            x.addScene(i == 1 ? 0 : 1, 2);
            x.tear(i, 0, 3);
        }
        x.dislike(1, true);
        x.set(0, 2);
        x.run();
        Due.due("the energy ends", Due.numbersOfShow(x, 0), "[6, 4, 0, 4, 20, 8, -5, 2]");
        Due.due("the first scene", x.seen(0, 0), Due.NONE);
        Due.due("the second scene", x.seen(0, 1), 100);
        Due.due("the third scene", x.seen(0, 3), Due.NONE);
        Due.due("the last scene", x.seen(0, 5), 301);
        x.run();
        Due.due("the energy is back", Due.numbersOfShow(x, 1), "[6, 4, 0, 4, 20, 8, -5, 2]");
        x.set(0, 0);
        x.run();
        Due.due("no energy", Due.numbersOfShow(x, 2), "[8, 8, 0, 0, 28, 0, -5, 0]");
    }

    private static void runTears() {
        Due.at("promise 13, tears");
        Played x = new Played();
        x.addScene(0, 5);
        x.addScene(1, 1);
        x.dislike(1, true);
        x.set(1, 20);
        x.tear(0, 1, 1);
        x.tear(0, 2, 0);
        x.tear(0, 2, 2);
        for (int hole = 0; hole < 4; hole++) {
            x.tear(0, 3, hole);
        }
        x.tear(0, 4, 0);
        x.tear(0, 4, 1);
        x.tear(0, 4, 2);
        x.tear(1, 0, 0);
        int[][] torn = {{0, 2, 5, 15, 7, 1}, {0, 2, 5, 15, 7, 1}, {0, 3, 7, 15, 15, 3},
            {0, 3, 7, 15, 15, 3}, {0, 3, 7, 15, 15, 3}, {0, 7, 15, 15, 15, 7}, {0, 7, 15, 15, 15, 7},
            {0, 7, 15, 15, 15, 7}, {0, 15, 15, 15, 15, 15}};
        int[] counters = {4 + 3 + 2 + 0 + 1 + 1, 11, 11, 4 + 2 + 1 + 0 + 0 + 1, 8, 8, 4 + 1, 5, 5};
        for (int show = 0; show < torn.length; show++) {
            x.run();
            for (int frame = 0; frame < 6; frame++) {
                Due.due("torn after show " + show + " in " + frame,
                        x.frame(frame / 5, frame % 5, 1), torn[show][frame]);
            }
            Due.due("the counter of show " + show, x.show(show, 4), counters[show]);
        }
        Due.due("passes", x.frame(0, 3, 2), 9);
        Due.due("loss by winding of three holes", x.show(0, 5), 2);
    }

    private static void runBreaks() {
        Due.at("promise 13, breaks");
        Played x = new Played();
        x.addScene(0, 2);
        x.addScene(1, 2);
        x.addScene(2, 2);
        x.set(1, 2);
        x.run();
        x.run();
        Due.due("at the limit", x.reel(), "0:0-1 1:0-1/2 2:0-1/2");
        Due.due("no break", x.show(1, 6), Due.NONE);
        x.run();
        Due.due("a break", Due.numbersOfShow(x, 2), "[2, 2, 0, 0, 8, 0, 1, 0]");
        Due.due("behind it all stays", x.reel(), "0:0-1 1:0-1/3 2:0-1/2");
        Due.due("its passes", x.frame(1, 0, 2), 2);
        Due.due("the passes ahead", x.frame(0, 1, 2), 3);
        x.run();
        Due.due("again", x.reel(), "0:0-1 1:0-1/4 2:0-1/2");
        x.splice(1);
        x.run();
        Due.due("the next splice", x.show(4, 6), 2);
        Due.due("the next splice", x.reel(), "0:0-1 1:0-1/1 2:0-1/3");
        x.dislike(2, true);
        x.run();
        Due.due("a splice breaks ahead of winding", Due.numbersOfShow(x, 5), "[4, 4, 0, 0, 16, 0, 2, 0]");
    }

    private static void runIsFull() {
        Due.at("promise 13, full");
        Played x = new Played();
        x.addScene(0, 1);
        for (int show = 0; show < 10; show++) {
            Due.due("run()", x.run(), show);
        }
        Due.refused(x, "an 11th show", Due.FULL, Face::run);
        Due.due("history", x.count(12), 4);
        x.takeOut(0);
        Due.refused(x, "an 11th show of nothing", Due.NOT_POSSIBLE, Face::run);
        Played y = new Played();
        y.addScene(0, 20);
        for (int i = 1; i < 20; i++) {
            y.cut(i);
        }
        Due.due("run() of 20 pieces", y.run(), 0);
        Due.due("the splice of the last one", y.piece(19, 4), 1);
    }

    private static void addWitness() {
        Due.at("promise 14");
        Played x = new Played();
        Due.refused(x, "addWitness(0, 0, 1)", Due.UNKNOWN, r -> r.addWitness(0, 0, 1));
        x.addScene(0, 6);
        x.run();
        for (int bad : new int[] {-1, 1, Integer.MIN_VALUE, Integer.MAX_VALUE}) {
            Due.refused(x, "addWitness(" + bad + ", 0, 1)", Due.UNKNOWN, r -> r.addWitness(bad, 0, 1));
            Due.refused(x, "addWitness(" + bad + ", 0, 0)", Due.UNKNOWN, r -> r.addWitness(bad, 0, 0));
        }
        int[][] bad = {{-1, 3}, {0, 0}, {3, 3}, {4, 3}, {0, 7}, {6, 7}, {0, -1}, {-2, -1}, {6, 6},
            {Integer.MIN_VALUE, Integer.MAX_VALUE}, {Integer.MAX_VALUE, Integer.MIN_VALUE},
            {0, Integer.MAX_VALUE}, {0, Integer.MIN_VALUE}};
        for (int[] b : bad) {
            Due.refused(x, "addWitness(0, " + b[0] + ", " + b[1] + ")", Due.BAD_VALUE,
                    r -> r.addWitness(0, b[0], b[1]));
        }
        for (int i = 0; i < 6; i++) {
            Due.due("addWitness(0, " + i + ", 6)", x.addWitness(0, i, 6), i);
        }
        Due.due("addWitness(0, 0, 1)", x.addWitness(0, 0, 1), 6);
        Due.due("addWitness(0, 2, 3)", x.addWitness(0, 2, 3), 7);
        Due.due("history", x.count(12), 4);
        Due.refused(x, "a ninth", Due.FULL, r -> r.addWitness(0, 0, 1));
        Due.refused(x, "a bad ninth", Due.BAD_VALUE, r -> r.addWitness(0, 1, 1));
        Due.refused(x, "a ninth of no show", Due.UNKNOWN, r -> r.addWitness(1, 1, 1));
        Due.due("undo()", x.undo(), 3);
        Due.due("a new eighth", x.addWitness(0, 4, 5), 7);
    }
}
