import java.util.ArrayList;
import java.util.List;

/** What all tests share: a tally of the answers that were not due, and a list of all that is told. */
final class Due {
    static final int UNKNOWN = -1;
    static final int BAD_VALUE = -2;
    static final int FULL = -3;
    static final int NOT_POSSIBLE = -4;
    static final int NONE = -5;
    static final int[] WILD = {Integer.MIN_VALUE, -100, -1, 100, Integer.MAX_VALUE};

    private static int wrong;
    private static String place = "";

    private Due() {
    }

    static void at(String newPlace) {
        place = newPlace;
    }

    static void due(String call, Object got, Object want) {
        if (!got.equals(want)) {
            wrong++;
            System.out.println(place + ": " + call + " answered " + got + ", due is " + want);
        }
    }

    static boolean isWrong() {
        return wrong != 0;
    }

    static void end() {
        System.out.println(wrong == 0 ? "all answers are as due" : wrong + " answers are not as due");
        if (wrong != 0) {
            System.exit(1);
        }
    }

    static void write(HoleReel x, String text) {
        for (char c : text.toCharArray()) {
            x.type(c);
        }
    }

    static int edit(HoleReel x, String text) {
        x.clearText();
        write(x, text);
        return x.edit();
    }

    /** The pieces of the reel or the can, as "scene:first-last", with "/passes" where not 0. */
    static String reel(HoleReel x) {
        StringBuilder told = new StringBuilder();
        for (int i = 0; i < x.count(1); i++) {
            told.append(i == 0 ? "" : " ").append(x.piece(i, 0)).append(':')
                    .append(x.piece(i, 1)).append('-').append(x.piece(i, 2));
            if (x.piece(i, 4) != 0) {
                told.append('/').append(x.piece(i, 4));
            }
        }
        return told.toString();
    }

    static String can(HoleReel x) {
        StringBuilder told = new StringBuilder();
        for (int i = 0; i < x.count(2); i++) {
            told.append(i == 0 ? "" : " ").append(x.canned(i, 0)).append(':')
                    .append(x.canned(i, 1)).append('-').append(x.canned(i, 2));
        }
        return told.toString();
    }

    static String numbersOfShow(HoleReel x, int show) {
        List<Integer> told = new ArrayList<>();
        for (int what = 0; what < 8; what++) {
            told.add(x.show(show, what));
        }
        return told.toString();
    }

    static String numbersOfNext(HoleReel x) {
        List<Integer> told = new ArrayList<>();
        for (int what = 0; what < 8; what++) {
            told.add(x.next(what));
        }
        return told.toString();
    }

    /** All that is told of a state, so without the history and the text. */
    static List<Integer> state(HoleReel x) {
        return answers(x, tellings(x, 11));
    }

    /** All that is told at all. */
    static List<Integer> all(HoleReel x) {
        return answers(x, allTellings(x));
    }

    static List<Integer> answers(HoleReel x, List<Call> calls) {
        List<Integer> told = new ArrayList<>();
        calls.forEach(call -> told.add(call.on(x)));
        return told;
    }

    /** The calls that tell all of an object, and of any other that is like it. */
    static List<Call> allTellings(HoleReel x) {
        return tellings(x, 13);
    }

    private static List<Call> tellings(HoleReel x, int lastCount) {
        List<Call> calls = new ArrayList<>();
        for (int i = 0; i <= lastCount; i++) {
            int what = i;
            calls.add(r -> r.count(what));
        }
        for (int i = 0; i < 8; i++) {
            int what = i;
            calls.add(r -> r.next(what));
        }
        addPieces(calls, x.count(3));
        for (int scene = 0; scene < 12; scene++) {
            addScene(calls, scene, x.scene(scene, 1));
        }
        for (int show = 0; show < 10; show++) {
            addShow(calls, show, x.show(show, 0));
        }
        for (int witness = 0; witness < 8; witness++) {
            addWitness(calls, witness);
        }
        return calls;
    }

    private static void addPieces(List<Call> calls, int positions) {
        for (int i = 0; i < 20; i++) {
            int piece = i;
            for (int j = 0; j < 5; j++) {
                int what = j;
                calls.add(r -> r.piece(piece, what));
            }
            for (int j = 0; j < 3; j++) {
                int what = j;
                calls.add(r -> r.canned(piece, what));
            }
        }
        for (int i = 0; i <= positions; i++) {
            int position = i;
            calls.add(r -> r.frameAt(position));
        }
    }

    private static void addScene(List<Call> calls, int scene, int frames) {
        for (int i = 0; i < 6; i++) {
            int what = i;
            calls.add(r -> r.scene(scene, what));
        }
        for (int i = 0; i <= frames; i++) {
            int frame = i;
            for (int j = 0; j < 4; j++) {
                int what = j;
                calls.add(r -> r.frame(scene, frame, what));
            }
        }
    }

    private static void addShow(List<Call> calls, int show, int units) {
        for (int i = 0; i < 8; i++) {
            int what = i;
            calls.add(r -> r.show(show, what));
        }
        for (int i = 0; i <= units; i++) {
            int unit = i;
            calls.add(r -> r.seen(show, unit));
        }
    }

    private static void addWitness(List<Call> calls, int witness) {
        for (int i = 0; i < 6; i++) {
            int what = i;
            calls.add(r -> r.witness(witness, what));
        }
        for (int i = 0; i < 12; i++) {
            int scene = i;
            calls.add(r -> r.saw(witness, scene));
        }
        for (int i = 0; i < 8; i++) {
            int other = i;
            calls.add(r -> r.differ(witness, other));
        }
    }

    /** A call that should answer an error or NONE, and change nothing. */
    interface Call {
        int on(HoleReel x);
    }

    static void refused(HoleReel x, String call, int want, Call made) {
        List<Integer> before = all(x);
        due(call, made.on(x), want);
        due(call + " changes nothing", all(x), before);
    }
}
