/** Long runs of mixed calls, of which each answer is compared with that of Model. */
public final class ModelTest {
    private static final int RUNS = 210;
    private static final int CALLS = 512;
    /** How often each act is called, by the theme of a run; the rest of the calls are tellings. */
    private static final int[][] THEMES = {
        // addScene cut join takeOut putIn move tear patch splice dislike set run witness text history
        {4, 4, 3, 4, 4, 4, 4, 2, 2, 2, 2, 4, 3, 4, 4},
        {6, 14, 2, 3, 3, 4, 2, 1, 2, 1, 1, 4, 2, 2, 1},
        {6, 10, 1, 9, 4, 2, 2, 1, 1, 1, 1, 1, 1, 3, 1},
        {3, 3, 1, 1, 1, 1, 9, 1, 3, 4, 4, 12, 6, 0, 1},
        {3, 4, 2, 2, 3, 3, 1, 1, 1, 1, 1, 2, 1, 20, 4},
        {6, 3, 2, 2, 2, 3, 3, 2, 1, 2, 2, 6, 4, 1, 16},
        {12, 2, 1, 1, 1, 2, 3, 1, 2, 5, 3, 9, 8, 1, 3}};
    private static final int FAULTS = 6;
    private static final String SIGNS = "cjoim0123456789,;x ";

    private HoleReel reel = new HoleReel();
    private Model model = new Model();
    private long seed;
    private int run;
    private final int[] answers = new int[FAULTS + 1];

    private ModelTest() {
    }

    public static void main(String[] args) {
        ModelTest test = new ModelTest();
        for (int i = 0; i < RUNS && !Due.isWrong(); i++) {
            test.oneRun(i);
        }
        test.checkThatLimitsAreMet();
        Due.end();
    }

    private void oneRun(int number) {
        run = number;
        seed = 1000003L * number + 17;
        reel = new HoleReel();
        model = new Model();
        for (int call = 0; call < CALLS && !Due.isWrong(); call++) {
            Due.at("run " + run + ", call " + call);
            if (roll(3) > 0) {
                act(pick(THEMES[run % THEMES.length]));
            } else {
                tell(roll(12));
            }
        }
    }

    private void same(String call, int got, int want) {
        Due.due(call, got, want);
        answers[want >= 0 ? 0 : want <= -100 ? FAULTS : -want]++;
    }

    /** A test that never meets an error would not tell much. */
    private void checkThatLimitsAreMet() {
        for (int i = 0; i <= FAULTS; i++) {
            if (!Due.isWrong()) {
                Due.due("enough answers of kind " + i, answers[i] > 1000, true);
            }
        }
    }

    private int roll(int sides) {
        seed = seed * 6364136223846793005L + 1442695040888963407L;
        return (int) ((seed >>> 33) % sides);
    }

    private int pick(int[] weights) {
        int sum = 0;
        for (int weight : weights) {
            sum += weight;
        }
        int left = roll(sum);
        int index = 0;
        while (left >= weights[index]) {
            left -= weights[index];
            index++;
        }
        return index;
    }

    /** Mostly from 0 to below an end; sometimes at the edges or far outside. */
    private int near(int end) {
        int dice = roll(24);
        if (dice == 0) {
            return -1;
        }
        if (dice == 1) {
            return end;
        }
        if (dice == 2) {
            return roll(2) == 0 ? Integer.MIN_VALUE : Integer.MAX_VALUE;
        }
        return end < 1 ? 0 : roll(end);
    }

    private int anyScene() {
        return near(model.count(0));
    }

    private int anyFrame(int scene) {
        int frames = model.scene(scene, 1);
        return near(frames < 1 ? 40 : roll(3) == 0 ? Math.min(2, frames) : frames);
    }

    private void act(int which) {
        switch (which) {
            case 0 -> {
                int kind = near(roll(4) == 0 ? 6 : 2);
                int frames = near(roll(3) == 0 ? 40 : 6) + 1;
                same("addScene(" + kind + ", " + frames + ")", reel.addScene(kind, frames),
                        model.addScene(kind, frames));
            }
            case 1 -> {
                int position = near(model.count(3));
                same("cut(" + position + ")", reel.cut(position), model.cut(position));
            }
            case 2 -> {
                int piece = near(model.count(1));
                same("join(" + piece + ")", reel.join(piece), model.join(piece));
            }
            case 3 -> {
                int piece = near(model.count(1));
                same("takeOut(" + piece + ")", reel.takeOut(piece), model.takeOut(piece));
            }
            case 4 -> {
                int piece = near(model.count(2));
                int at = near(model.count(1) + 1);
                same("putIn(" + piece + ", " + at + ")", reel.putIn(piece, at), model.putIn(piece, at));
            }
            case 5 -> {
                int piece = near(model.count(1));
                int to = near(model.count(1));
                same("move(" + piece + ", " + to + ")", reel.move(piece, to), model.move(piece, to));
            }
            default -> actOnFrames(which);
        }
    }

    private void actOnFrames(int which) {
        int scene = anyScene();
        int frame = anyFrame(scene);
        int piece = near(model.count(1));
        switch (which) {
            case 6 -> {
                int hole = near(4);
                same("tear(" + scene + ", " + frame + ", " + hole + ")", reel.tear(scene, frame, hole),
                        model.tear(scene, frame, hole));
            }
            case 7 -> same("patch(" + scene + ", " + frame + ")", reel.patch(scene, frame),
                    model.patch(scene, frame));
            case 8 -> same("splice(" + piece + ")", reel.splice(piece), model.splice(piece));
            default -> actInShows(which);
        }
    }

    private void actInShows(int which) {
        switch (which) {
            case 9 -> {
                int kind = near(roll(3) == 0 ? 6 : 2);
                boolean is = roll(4) > 0;
                same("dislike(" + kind + ", " + is + ")", reel.dislike(kind, is), model.dislike(kind, is));
            }
            case 10 -> {
                int what = near(2);
                int value = near(roll(2) == 0 ? 21 : 4);
                same("set(" + what + ", " + value + ")", reel.set(what, value), model.set(what, value));
            }
            case 11 -> same("run()", reel.run(), model.run());
            case 12 -> {
                int show = near(model.count(5));
                int units = model.show(show, 0);
                int from = near(units);
                int to = roll(3) == 0 ? near(units + 1) : from + 1 + near(Math.max(1, units - from));
                same("addWitness(" + show + ", " + from + ", " + to + ")",
                        reel.addWitness(show, from, to), model.addWitness(show, from, to));
            }
            case 13 -> editText();
            default -> actInHistory();
        }
    }

    private void actInHistory() {
        int dice = roll(10);
        if (dice < 5) {
            same("undo()", reel.undo(), model.undo());
        } else if (dice < 7) {
            same("keep()", reel.keep(), model.keep());
        } else {
            same("restore()", reel.restore(), model.restore());
        }
        compareAll();
    }

    private void editText() {
        if (roll(3) > 0) {
            same("clearText()", reel.clearText(), model.clearText());
        }
        int edits = roll(8) == 0 ? 12 + roll(10) : 1 + roll(4);
        StringBuilder text = new StringBuilder(model.count(13) == 0 ? "" : ";");
        for (int i = 0; i < edits; i++) {
            text.append(i == 0 ? "" : ";").append(anEdit());
        }
        if (roll(5) == 0) {
            text.setCharAt(roll(text.length()), SIGNS.charAt(roll(SIGNS.length())));
        }
        if (roll(8) == 0) {
            text.append(SIGNS.charAt(roll(SIGNS.length())));
        }
        for (char sign : text.toString().toCharArray()) {
            same("type(" + sign + ")", reel.type(sign), model.type(sign));
        }
        same("edit() of " + text, reel.edit(), model.edit());
    }

    private String anEdit() {
        char verb = "cccjoim".charAt(roll(7));
        int one = roll(Math.max(1, model.count(verb == 'c' ? 3 : verb == 'i' ? 2 : 1)));
        if (verb == 'c' || verb == 'j' || verb == 'o') {
            return "" + verb + one;
        }
        return "" + verb + one + "," + roll(Math.max(1, model.count(1)));
    }

    private void tell(int which) {
        int scene = anyScene();
        int frame = anyFrame(scene);
        int what = near(8);
        int show = near(model.count(5));
        int witness = near(model.count(6));
        int other = near(model.count(6));
        int piece = near(model.count(1));
        switch (which) {
            case 0 -> same("scene(" + scene + ", " + what + ")", reel.scene(scene, what),
                    model.scene(scene, what));
            case 1 -> same("piece(" + piece + ", " + what + ")", reel.piece(piece, what),
                    model.piece(piece, what));
            case 2 -> same("canned(" + piece + ", " + what + ")", reel.canned(piece, what),
                    model.canned(piece, what));
            case 3 -> same("frameAt(" + frame + ")", reel.frameAt(frame), model.frameAt(frame));
            case 4 -> same("frame(" + scene + ", " + frame + ", " + what + ")",
                    reel.frame(scene, frame, what), model.frame(scene, frame, what));
            case 5 -> same("show(" + show + ", " + what + ")", reel.show(show, what),
                    model.show(show, what));
            case 6 -> same("seen(" + show + ", " + frame + ")", reel.seen(show, frame),
                    model.seen(show, frame));
            case 7 -> same("witness(" + witness + ", " + what + ")", reel.witness(witness, what),
                    model.witness(witness, what));
            case 8 -> same("saw(" + witness + ", " + scene + ")", reel.saw(witness, scene),
                    model.saw(witness, scene));
            case 9 -> same("differ(" + witness + ", " + other + ")", reel.differ(witness, other),
                    model.differ(witness, other));
            case 10 -> same("next(" + what + ")", reel.next(what), model.next(what));
            default -> compareAll();
        }
    }

    /** All that is told, at and a bit over the edges of what there is. */
    private void compareAll() {
        for (int what = -1; what <= 14; what++) {
            same("count(" + what + ")", reel.count(what), model.count(what));
        }
        for (int what = 0; what < 8; what++) {
            same("next(" + what + ")", reel.next(what), model.next(what));
        }
        for (int piece = -1; piece <= model.count(1); piece++) {
            for (int what = -1; what <= 5; what++) {
                same("piece(" + piece + ", " + what + ")", reel.piece(piece, what),
                        model.piece(piece, what));
            }
        }
        for (int piece = -1; piece <= model.count(2); piece++) {
            for (int what = -1; what <= 3; what++) {
                same("canned(" + piece + ", " + what + ")", reel.canned(piece, what),
                        model.canned(piece, what));
            }
        }
        for (int position = -1; position <= model.count(3); position++) {
            same("frameAt(" + position + ")", reel.frameAt(position), model.frameAt(position));
        }
        compareScenes();
        compareShows();
    }

    private void compareScenes() {
        for (int scene = -1; scene <= model.count(0); scene++) {
            for (int what = -1; what <= 6; what++) {
                same("scene(" + scene + ", " + what + ")", reel.scene(scene, what),
                        model.scene(scene, what));
            }
            for (int frame = -1; frame <= Math.max(0, model.scene(scene, 1)); frame++) {
                for (int what = -1; what <= 4; what++) {
                    same("frame(" + scene + ", " + frame + ", " + what + ")",
                            reel.frame(scene, frame, what), model.frame(scene, frame, what));
                }
            }
        }
    }

    private void compareShows() {
        for (int show = -1; show <= model.count(5); show++) {
            for (int what = -1; what <= 8; what++) {
                same("show(" + show + ", " + what + ")", reel.show(show, what), model.show(show, what));
            }
            for (int unit = -1; unit <= Math.max(0, model.show(show, 0)); unit++) {
                same("seen(" + show + ", " + unit + ")", reel.seen(show, unit), model.seen(show, unit));
            }
        }
        for (int witness = -1; witness <= model.count(6); witness++) {
            for (int what = -1; what <= 6; what++) {
                same("witness(" + witness + ", " + what + ")", reel.witness(witness, what),
                        model.witness(witness, what));
            }
            for (int scene = -1; scene <= model.count(0); scene++) {
                same("saw(" + witness + ", " + scene + ")", reel.saw(witness, scene),
                        model.saw(witness, scene));
            }
            for (int other = -1; other <= model.count(6); other++) {
                same("differ(" + witness + ", " + other + ")", reel.differ(witness, other),
                        model.differ(witness, other));
            }
        }
    }
}
