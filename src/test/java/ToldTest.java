/** Promises 21 to 32: what is told. */
public final class ToldTest {
    private ToldTest() {
    }

    public static void main(String[] args) {
        scene();
        sceneInOrder();
        piece();
        canned();
        frameAt();
        frame();
        show();
        seen();
        witness();
        saw();
        differ();
        next();
        count();
        Due.end();
    }

    private static void badWhats(Played x, String call, int highest, int want, Telling telling) {
        for (int bad : new int[] {-1, highest + 1, Integer.MIN_VALUE, Integer.MAX_VALUE}) {
            Due.refused(x, call + " what " + bad, want, r -> telling.on(r, bad));
        }
    }

    private interface Telling {
        int on(Face x, int number);
    }

    private static void scene() {
        Due.at("promise 21");
        Played x = new Played();
        x.addScene(5, 9);
        x.addScene(2, 4);
        x.cut(3);
        x.cut(6);
        x.takeOut(1);
        x.tear(0, 4, 0);
        x.tear(0, 4, 3);
        x.tear(0, 8, 2);
        x.tear(1, 0, 1);
        x.tear(1, 3, 2);
        int[] first = {5, 9, 6, 3, 3, 1};
        int[] second = {2, 4, 4, 1, 2, 1};
        for (int what = 0; what < 6; what++) {
            Due.due("scene(0, " + what + ")", x.scene(0, what), first[what]);
            Due.due("scene(1, " + what + ")", x.scene(1, what), second[what]);
        }
        x.addScene(0, 40);
        x.addScene(0, 40);
        x.tear(2, 39, 0);
        x.tear(3, 0, 0);
        x.tear(3, 0, 1);
        Due.due("a scene of 40 frames", x.scene(2, 4), 1);
        Due.due("the one behind it", x.scene(3, 4), 2);
        badWhats(x, "scene(1)", 5, Due.BAD_VALUE, (r, what) -> r.scene(1, what));
        badWhats(x, "scene(4)", 5, Due.UNKNOWN, (r, what) -> r.scene(4, what));
        badWhats(x, "no scene", 3, Due.UNKNOWN, (r, scene) -> r.scene(scene, 0));
    }

    private static void sceneInOrder() {
        Due.at("promise 21, order");
        Played x = new Played();
        x.addScene(0, 6);
        x.addScene(0, 2);
        x.cut(2);
        x.cut(4);
        x.move(3, 1);
        Due.due("another between", x.scene(0, 5), 1);
        x.move(0, 2);
        Due.due("the last two turned", x.reel(), "1:0-1 0:2-3 0:0-1 0:4-5");
        Due.due("not in order", x.scene(0, 5), 0);
        Due.due("the other scene", x.scene(1, 5), 1);
        x.takeOut(1);
        Due.due("the wrong one in the can", x.scene(0, 5), 1);
        x.takeOut(1);
        x.takeOut(1);
        Due.due("none on the reel", x.scene(0, 5), 1);
        Due.due("none on the reel", x.scene(0, 2), 0);
        Due.due("three in the can", x.scene(0, 3), 3);
        x.putIn(2, 0);
        x.putIn(1, 2);
        Due.due("the last ones first", x.reel(), "0:4-5 1:0-1 0:0-1");
        Due.due("not in order", x.scene(0, 5), 0);
    }

    private static void piece() {
        Due.at("promise 22");
        Played x = new Played();
        x.addScene(0, 5);
        x.addScene(0, 4);
        x.cut(7);
        x.run();
        x.run();
        x.cut(8);
        int[][] told = {{0, 0, 4, 0, 0}, {1, 0, 1, 5, 2}, {1, 2, 2, 7, 2}, {1, 3, 3, 8, 0}};
        for (int piece = 0; piece < 4; piece++) {
            for (int what = 0; what < 5; what++) {
                Due.due("piece(" + piece + ", " + what + ")", x.piece(piece, what), told[piece][what]);
            }
        }
        badWhats(x, "piece(3)", 4, Due.BAD_VALUE, (r, what) -> r.piece(3, what));
        badWhats(x, "piece(4)", 4, Due.UNKNOWN, (r, what) -> r.piece(4, what));
        badWhats(x, "no piece", 3, Due.UNKNOWN, (r, piece) -> r.piece(piece, 0));
    }

    private static void canned() {
        Due.at("promise 23");
        Played x = new Played();
        x.addScene(0, 5);
        x.addScene(0, 4);
        x.cut(7);
        x.takeOut(2);
        x.takeOut(0);
        int[][] told = {{1, 2, 3}, {0, 0, 4}};
        for (int piece = 0; piece < 2; piece++) {
            for (int what = 0; what < 3; what++) {
                Due.due("canned(" + piece + ", " + what + ")", x.canned(piece, what), told[piece][what]);
            }
        }
        badWhats(x, "canned(1)", 2, Due.BAD_VALUE, (r, what) -> r.canned(1, what));
        badWhats(x, "canned(2)", 2, Due.UNKNOWN, (r, what) -> r.canned(2, what));
        badWhats(x, "no piece", 1, Due.UNKNOWN, (r, piece) -> r.canned(piece, 0));
    }

    private static void frameAt() {
        Due.at("promise 24");
        Played x = new Played();
        x.addScene(0, 3);
        x.addScene(0, 4);
        x.cut(5);
        x.move(2, 0);
        int[] codes = {102, 103, 0, 1, 2, 100, 101};
        for (int position = 0; position < 7; position++) {
            Due.due("frameAt(" + position + ")", x.frameAt(position), codes[position]);
        }
        Due.refused(x, "frameAt(7)", Due.NONE, r -> r.frameAt(7));
        Due.refused(x, "frameAt(MAX)", Due.NONE, r -> r.frameAt(Integer.MAX_VALUE));
        Due.refused(x, "frameAt(-1)", Due.BAD_VALUE, r -> r.frameAt(-1));
        Due.refused(x, "frameAt(MIN)", Due.BAD_VALUE, r -> r.frameAt(Integer.MIN_VALUE));
    }

    private static void frame() {
        Due.at("promise 25");
        Played x = new Played();
        x.addScene(0, 3);
        x.addScene(0, 4);
        x.cut(5);
        x.move(2, 0);
        x.run();
        int[] positions = {5, 6, 0, 1};
        for (int frame = 0; frame < 4; frame++) {
            Due.due("frame(1, " + frame + ", 0)", x.frame(1, frame, 0), positions[frame]);
        }
        int[] bits = {4, 12, 13, 15};
        int[] holes = {2, 3, 0, 1};
        int[] isShown = {1, 1, 0, 0};
        Due.due("shown", x.frame(0, 1, 3), 1);
        for (int i = 0; i < 4; i++) {
            x.tear(0, 1, holes[i]);
            Due.due("bits", x.frame(0, 1, 1), bits[i]);
            Due.due("shown", x.frame(0, 1, 3), isShown[i]);
        }
        x.dislike(0, true);
        Due.due("wound, but not torn", x.frame(0, 0, 3), 1);
        x.takeOut(0);
        Due.due("in the can", x.frame(1, 2, 0), Due.NONE);
        Due.due("on the reel", x.frame(1, 0, 0), 3);
        x.run();
        Due.due("passes in the can", x.frame(1, 2, 2), 1);
        Due.due("passes on the reel", x.frame(1, 1, 2), 2);
        badWhats(x, "frame(0, 2)", 3, Due.BAD_VALUE, (r, what) -> r.frame(0, 2, what));
        badWhats(x, "frame(0, 3)", 3, Due.UNKNOWN, (r, what) -> r.frame(0, 3, what));
        badWhats(x, "no scene", 1, Due.UNKNOWN, (r, scene) -> r.frame(scene, 0, 0));
        badWhats(x, "no frame", 3, Due.UNKNOWN, (r, frame) -> r.frame(1, frame, 9));
    }

    /** Two shows with a slip and a wound piece; the second one ends at the splice of piece 2. */
    private static Played twoShows() {
        Played x = new Played();
        x.addScene(0, 3);
        x.addScene(1, 5);
        x.addScene(2, 1);
        x.tear(0, 1, 0);
        x.tear(0, 1, 1);
        x.tear(0, 1, 3);
        x.dislike(1, true);
        x.run();
        x.set(1, 1);
        x.splice(1);
        x.run();
        return x;
    }

    private static void show() {
        Due.at("promise 26");
        Played x = twoShows();
        Due.due("show 0", Due.numbersOfShow(x, 0), "[6, 3, 1, 5, 23, 10, -5, 1]");
        Due.due("show 1", Due.numbersOfShow(x, 1), "[5, 2, 1, 5, 19, 10, 2, 1]");
        badWhats(x, "show(1)", 7, Due.BAD_VALUE, (r, what) -> r.show(1, what));
        badWhats(x, "show(2)", 7, Due.UNKNOWN, (r, what) -> r.show(2, what));
        badWhats(x, "no show", 1, Due.UNKNOWN, (r, show) -> r.show(show, 0));
    }

    private static void seen() {
        Due.at("promise 27");
        Played x = twoShows();
        int[] units = {0, Due.NONE, 2, Due.NONE, Due.NONE, 200, Due.BAD_VALUE};
        for (int unit = 0; unit < units.length; unit++) {
            Due.due("seen(0, " + unit + ")", x.seen(0, unit), units[unit]);
        }
        Due.due("seen(1, 4)", x.seen(1, 4), Due.NONE);
        Due.due("seen(1, 5)", x.seen(1, 5), Due.BAD_VALUE);
        badWhats(x, "seen(0)", 5, Due.BAD_VALUE, (r, unit) -> r.seen(0, unit));
        badWhats(x, "seen(2)", 5, Due.UNKNOWN, (r, unit) -> r.seen(2, unit));
        badWhats(x, "no show", 1, Due.UNKNOWN, (r, show) -> r.seen(show, 0));
        Played y = new Played();
        for (int i = 0; i < 12; i++) {
            y.addScene(0, 40);
        }
        y.run();
        Due.due("the longest show", y.show(0, 0), 480);
        Due.due("its last frame", y.seen(0, 479), 1139);
        Due.due("behind it", y.seen(0, 480), Due.BAD_VALUE);
    }

    private static Played witnesses() {
        Played x = twoShows();
        x.addWitness(0, 0, 3);
        x.addWitness(0, 1, 6);
        x.addWitness(0, 3, 5);
        x.addWitness(1, 0, 5);
        x.addWitness(0, 5, 6);
        return x;
    }

    private static void witness() {
        Due.at("promise 28");
        Played x = witnesses();
        int[][] told = {{0, 0, 3, 2, 1, 1}, {0, 1, 6, 2, 3, 5}, {0, 3, 5, 0, 2, 0}, {1, 0, 5, 2, 3, 1},
            {0, 5, 6, 1, 0, 4}};
        for (int witness = 0; witness < 5; witness++) {
            for (int what = 0; what < 6; what++) {
                Due.due("witness(" + witness + ", " + what + ")", x.witness(witness, what),
                        told[witness][what]);
            }
        }
        badWhats(x, "witness(4)", 5, Due.BAD_VALUE, (r, what) -> r.witness(4, what));
        badWhats(x, "witness(5)", 5, Due.UNKNOWN, (r, what) -> r.witness(5, what));
        badWhats(x, "no witness", 4, Due.UNKNOWN, (r, witness) -> r.witness(witness, 0));
    }

    private static void saw() {
        Due.at("promise 29");
        Played x = witnesses();
        int[][] told = {{2, 0, 0}, {1, 0, 1}, {0, 0, 0}, {2, 0, 0}, {0, 0, 1}};
        for (int witness = 0; witness < 5; witness++) {
            for (int scene = 0; scene < 3; scene++) {
                Due.due("saw(" + witness + ", " + scene + ")", x.saw(witness, scene),
                        told[witness][scene]);
            }
        }
        badWhats(x, "no scene", 2, Due.UNKNOWN, (r, scene) -> r.saw(0, scene));
        badWhats(x, "no witness", 4, Due.UNKNOWN, (r, witness) -> r.saw(witness, 0));
        badWhats(x, "neither", 4, Due.UNKNOWN, (r, number) -> r.saw(number, number));
    }

    private static void differ() {
        Due.at("promise 30");
        Played x = witnesses();
        int[][] told = {{0, 1, 1, -4, 2}, {1, 0, 2, -4, 1}, {1, 2, 0, -4, 1}, {-4, -4, -4, 0, -4},
            {2, 1, 1, -4, 0}};
        for (int witness = 0; witness < 5; witness++) {
            for (int other = 0; other < 5; other++) {
                Due.due("differ(" + witness + ", " + other + ")", x.differ(witness, other),
                        told[witness][other]);
            }
        }
        badWhats(x, "no other", 4, Due.UNKNOWN, (r, other) -> r.differ(3, other));
        badWhats(x, "no witness", 4, Due.UNKNOWN, (r, witness) -> r.differ(witness, 0));
        badWhats(x, "neither", 4, Due.UNKNOWN, (r, witness) -> r.differ(witness, witness));
    }

    private static void next() {
        Due.at("promise 31");
        Played x = new Played();
        Due.refused(x, "next(0) of nothing", Due.NOT_POSSIBLE, r -> r.next(0));
        badWhats(x, "next of nothing", 7, Due.BAD_VALUE, Face::next);
        x = twoShows();
        badWhats(x, "next", 7, Due.BAD_VALUE, Face::next);
        for (int show = 2; show < 10; show++) {
            String told = Due.numbersOfNext(x);
            Due.due("next twice", Due.numbersOfNext(x), told);
            Due.due("run()", x.run(), show);
            Due.due("show " + show + " is what next told", Due.numbersOfShow(x, show), told);
            if (show == 5) {
                x.set(1, 4);
                x.splice(1);
            }
            if (show == 7) {
                x.set(0, 0);
            }
        }
        x.set(1, 20);
        Due.due("behind ten shows", Due.numbersOfNext(x), "[9, 8, 1, 0, 32, 0, -5, 0]");
        x.takeOut(0);
        x.takeOut(0);
        x.takeOut(0);
        Due.refused(x, "next(7) of the can", Due.NOT_POSSIBLE, r -> r.next(7));
    }

    private static void count() {
        Due.at("promise 32");
        Played x = witnesses();
        x.cut(2);
        x.takeOut(1);
        Due.write(x, "c1;");
        int[] counts = {3, 3, 1, 8, 1, 2, 5, 2, 3, 1, 3, 1, 4, 3};
        for (int what = 0; what < counts.length; what++) {
            Due.due("count(" + what + ")", x.count(what), counts[what]);
        }
        badWhats(x, "count", 13, Due.BAD_VALUE, Face::count);
        Played y = new Played();
        y.addScene(0, 1);
        y.addScene(0, 1);
        y.addScene(0, 1);
        y.set(1, 2);
        y.run();
        Due.due("less than the limit", y.count(11), 0);
        y.run();
        Due.due("the limit", y.count(11), 2);
        y.run();
        Due.due("over the limit", y.count(11), 2);
        y.set(1, 3);
        Due.due("another limit", y.count(11), 1);
        y.takeOut(0);
        Due.due("a first piece", y.count(11), 0);
    }
}
