import java.util.ArrayList;
import java.util.List;

/** Long runs of mixed calls, of which each answer is compared with that of Model. */
public final class ModelTest {
    private static final int RUNS = 1400;
    /** So many calls at the most are made at once: clearText, 60 of type and the edit. */
    private static final int MOST_AT_ONCE = 62;
    /** How often each act is called, by the theme of a run; the rest of the calls are tellings. */
    private static final int[][] THEMES = {
        // addScene cut join takeOut putIn move tear patch splice dislike set run witness text history
        {4, 4, 3, 4, 4, 4, 4, 2, 2, 2, 2, 4, 3, 4, 4},
        {6, 14, 2, 3, 3, 4, 2, 1, 2, 1, 1, 4, 2, 2, 1},
        {6, 10, 1, 9, 4, 2, 2, 1, 1, 1, 1, 1, 1, 3, 1},
        {3, 3, 1, 1, 1, 1, 9, 1, 3, 4, 4, 12, 6, 0, 1},
        {3, 4, 2, 2, 3, 3, 1, 1, 1, 1, 1, 2, 1, 20, 4},
        {6, 3, 2, 2, 2, 3, 3, 2, 1, 2, 2, 6, 4, 1, 16},
        {12, 2, 1, 1, 1, 2, 3, 1, 2, 5, 3, 9, 8, 1, 3}};
    private static final int FAULTS = 6;
    private static final String SIGNS = "cjoim0123456789,;x ";

    private Played reel = new Played();
    private Model model = new Model();
    private long seed;
    private final int[] answers = new int[FAULTS + 1];

    private ModelTest() {
    }

    public static void main(String[] args) {
        ModelTest test = new ModelTest();
        for (int i = 0; i < RUNS && !Due.isWrong(); i++) {
            test.oneRun(i);
        }
        test.checkThatLimitsAreMet();
        Due.end();
    }

    private void oneRun(int number) {
        seed = 1000003L * number + 17;
        reel = new Played();
        model = new Model();
        while (reel.callsLeft() > MOST_AT_ONCE && !Due.isWrong()) {
            Due.at("run " + number + ", with " + reel.callsLeft() + " calls left");
            if (roll(3) > 0) {
                act(pick(THEMES[number % THEMES.length]));
            } else {
                tell(roll(12));
            }
        }
        compareMany(reel);
    }

    private void same(String name, int... n) {
        same(new Call(name, n), reel);
    }

    private void same(Call call, Face one) {
        int got = call.on(one);
        int want = call.on(model);
        if (got != want) {
            Due.due(call.toString(), got, want);
        }
        answers[want >= 0 ? 0 : want <= -100 ? FAULTS : -want]++;
    }

    /** A test that never meets an error would not tell much. */
    private void checkThatLimitsAreMet() {
        for (int i = 0; i <= FAULTS; i++) {
            if (!Due.isWrong()) {
                Due.due("enough answers of kind " + i, answers[i] > 1000, true);
            }
        }
    }

    private int roll(int sides) {
        seed = seed * 6364136223846793005L + 1442695040888963407L;
        return (int) ((seed >>> 33) % sides);
    }

    private int pick(int[] weights) {
        int sum = 0;
        for (int weight : weights) {
            sum += weight;
        }
        int left = roll(sum);
        int index = 0;
        while (left >= weights[index]) {
            left -= weights[index];
            index++;
        }
        return index;
    }

    /** Mostly from 0 to below an end; sometimes at the edges or far outside. */
    private int near(int end) {
        int dice = roll(24);
        if (dice == 0) {
            return -1;
        }
        if (dice == 1) {
            return end;
        }
        if (dice == 2) {
            return roll(2) == 0 ? Integer.MIN_VALUE : Integer.MAX_VALUE;
        }
        return end < 1 ? 0 : roll(end);
    }

    private int anyScene() {
        return near(model.count(0));
    }

    private int anyPiece() {
        return near(model.count(1));
    }

    private int anyFrame(int scene) {
        int frames = model.scene(scene, 1);
        return near(frames < 1 ? 40 : roll(3) == 0 ? Math.min(2, frames) : frames);
    }

    private void act(int which) {
        int scene = anyScene();
        switch (which) {
            case 0 -> same("addScene", near(roll(4) == 0 ? 6 : 2), near(roll(3) == 0 ? 40 : 6) + 1);
            case 1 -> same("cut", near(model.count(3)));
            case 2 -> same("join", anyPiece());
            case 3 -> same("takeOut", anyPiece());
            case 4 -> same("putIn", near(model.count(2)), near(model.count(1) + 1));
            case 5 -> same("move", anyPiece(), anyPiece());
            case 6 -> same("tear", scene, anyFrame(scene), near(4));
            case 7 -> same("patch", scene, anyFrame(scene));
            case 8 -> same("splice", anyPiece());
            case 9 -> same("dislike", near(roll(3) == 0 ? 6 : 2), roll(4) > 0 ? 1 : 0);
            case 10 -> same("set", near(2), near(roll(2) == 0 ? 21 : 4));
            case 11 -> same("run");
            case 12 -> addWitness(near(model.count(5)));
            case 13 -> editText();
            default -> actInHistory();
        }
    }

    private void addWitness(int show) {
        int units = model.show(show, 0);
        int from = near(units);
        int to = roll(3) == 0 ? near(units + 1) : from + 1 + near(Math.max(1, units - from));
        same("addWitness", show, from, to);
    }

    private void actInHistory() {
        int dice = roll(10);
        same(dice < 5 ? "undo" : dice < 7 ? "keep" : "restore");
        compareMany(reel.another());
    }

    private void editText() {
        if (roll(3) > 0) {
            same("clearText");
        }
        int edits = roll(8) == 0 ? 12 + roll(10) : 1 + roll(4);
        StringBuilder text = new StringBuilder(model.count(13) == 0 ? "" : ";");
        for (int i = 0; i < edits; i++) {
            text.append(i == 0 ? "" : ";").append(anEdit());
        }
        if (roll(5) == 0) {
            text.setCharAt(roll(text.length()), SIGNS.charAt(roll(SIGNS.length())));
        }
        if (roll(8) == 0) {
            text.append(SIGNS.charAt(roll(SIGNS.length())));
        }
        for (int i = 0; i < text.length() && i < MOST_AT_ONCE - 2; i++) {
            same("type", text.charAt(i));
        }
        same("edit");
    }

    private String anEdit() {
        char verb = "cccjoim".charAt(roll(7));
        int one = roll(Math.max(1, model.count(verb == 'c' ? 3 : verb == 'i' ? 2 : 1)));
        if (verb == 'c' || verb == 'j' || verb == 'o') {
            return "" + verb + one;
        }
        return "" + verb + one + "," + roll(Math.max(1, model.count(1)));
    }

    private void tell(int which) {
        int scene = anyScene();
        int show = near(model.count(5));
        int witness = near(model.count(6));
        switch (which) {
            case 0 -> same("scene", scene, near(6));
            case 1 -> same("piece", anyPiece(), near(5));
            case 2 -> same("canned", near(model.count(2)), near(3));
            case 3 -> same("frameAt", near(model.count(3)));
            case 4 -> same("frame", scene, anyFrame(scene), near(4));
            case 5 -> same("show", show, near(8));
            case 6 -> same("seen", show, near(Math.max(1, model.show(show, 0))));
            case 7 -> same("witness", witness, near(6));
            case 8 -> same("saw", witness, scene);
            case 9 -> same("differ", witness, near(model.count(6)));
            case 10 -> same("next", near(8));
            default -> compareMany(reel.another());
        }
    }

    /** As many of all tellings, and of those a bit over the edges, as an object has calls left for. */
    private void compareMany(Played one) {
        List<Integer> sizes = new ArrayList<>();
        Tellings.sizes().forEach(call -> sizes.add(call.on(model)));
        List<Call> calls = Tellings.of(sizes, Tellings.LAST_COUNT, 1);
        int from = roll(calls.size());
        for (int i = 0; one.callsLeft() > 0 && !Due.isWrong(); i++) {
            same(calls.get((from + i) % calls.size()), one);
        }
    }
}
