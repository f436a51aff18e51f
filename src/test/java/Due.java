import java.util.ArrayList;
import java.util.List;

/** What all tests share: a tally of the answers that were not due, and a list of all that is told. */
final class Due {
    static final int UNKNOWN = -1;
    static final int BAD_VALUE = -2;
    static final int FULL = -3;
    static final int NOT_POSSIBLE = -4;
    static final int NONE = -5;
    static final int[] WILD = {Integer.MIN_VALUE, -100, -1, 100, Integer.MAX_VALUE};

    private static int wrong;
    private static String place = "";

    private Due() {
    }

    static void at(String newPlace) {
        place = newPlace;
    }

    static void due(String call, Object got, Object want) {
        if (!got.equals(want)) {
            wrong++;
            System.out.println(place + ": " + call + " answered " + got + ", due is " + want);
        }
    }

    static boolean isWrong() {
        return wrong != 0;
    }

    static void end() {
        System.out.println(wrong == 0 ? "all answers are as due" : wrong + " answers are not as due");
        if (wrong != 0) {
            System.exit(1);
        }
    }

    static void write(HoleReel x, String text) {
        for (char c : text.toCharArray()) {
            x.type(c);
        }
    }

    static int edit(HoleReel x, String text) {
        x.clearText();
        write(x, text);
        return x.edit();
    }

    /** The pieces of the reel or the can, as "scene:first-last", with "/passes" where not 0. */
    static String reel(HoleReel x) {
        StringBuilder told = new StringBuilder();
        for (int i = 0; i < x.count(1); i++) {
            told.append(i == 0 ? "" : " ").append(x.piece(i, 0)).append(':')
                    .append(x.piece(i, 1)).append('-').append(x.piece(i, 2));
            if (x.piece(i, 4) != 0) {
                told.append('/').append(x.piece(i, 4));
            }
        }
        return told.toString();
    }

    static String can(HoleReel x) {
        StringBuilder told = new StringBuilder();
        for (int i = 0; i < x.count(2); i++) {
            told.append(i == 0 ? "" : " ").append(x.canned(i, 0)).append(':')
                    .append(x.canned(i, 1)).append('-').append(x.canned(i, 2));
        }
        return told.toString();
    }

    static String numbersOfShow(HoleReel x, int show) {
        List<Integer> told = new ArrayList<>();
        for (int what = 0; what < 8; what++) {
            told.add(x.show(show, what));
        }
        return told.toString();
    }

    static String numbersOfNext(HoleReel x) {
        List<Integer> told = new ArrayList<>();
        for (int what = 0; what < 8; what++) {
            told.add(x.next(what));
        }
        return told.toString();
    }

    /** All that is told of a state, so without the history and the text. */
    static List<Integer> state(HoleReel x) {
        List<Integer> told = new ArrayList<>();
        for (int what = 0; what <= 11; what++) {
            told.add(x.count(what));
        }
        for (int what = 0; what < 8; what++) {
            told.add(x.next(what));
        }
        tellPieces(x, told);
        tellScenes(x, told);
        tellShows(x, told);
        tellWitnesses(x, told);
        return told;
    }

    private static void tellPieces(HoleReel x, List<Integer> told) {
        for (int piece = 0; piece < 20; piece++) {
            for (int what = 0; what < 5; what++) {
                told.add(x.piece(piece, what));
            }
            for (int what = 0; what < 3; what++) {
                told.add(x.canned(piece, what));
            }
        }
        for (int position = 0; position <= x.count(3); position++) {
            told.add(x.frameAt(position));
        }
    }

    private static void tellScenes(HoleReel x, List<Integer> told) {
        for (int scene = 0; scene < 12; scene++) {
            for (int what = 0; what < 6; what++) {
                told.add(x.scene(scene, what));
            }
            for (int frame = 0; frame <= x.scene(scene, 1); frame++) {
                for (int what = 0; what < 4; what++) {
                    told.add(x.frame(scene, frame, what));
                }
            }
        }
    }

    private static void tellShows(HoleReel x, List<Integer> told) {
        for (int show = 0; show < 10; show++) {
            for (int what = 0; what < 8; what++) {
                told.add(x.show(show, what));
            }
            for (int unit = 0; unit <= x.show(show, 0); unit++) {
                told.add(x.seen(show, unit));
            }
        }
    }

    private static void tellWitnesses(HoleReel x, List<Integer> told) {
        for (int witness = 0; witness < 8; witness++) {
            for (int what = 0; what < 6; what++) {
                told.add(x.witness(witness, what));
            }
            for (int scene = 0; scene < 12; scene++) {
                told.add(x.saw(witness, scene));
            }
            for (int other = 0; other < 8; other++) {
                told.add(x.differ(witness, other));
            }
        }
    }

    /** All that is told at all. */
    static List<Integer> all(HoleReel x) {
        List<Integer> told = state(x);
        told.add(x.count(12));
        told.add(x.count(13));
        return told;
    }

    /** A call that should answer an error or NONE, and change nothing. */
    interface Call {
        int on(HoleReel x);
    }

    static void refused(HoleReel x, String call, int want, Call made) {
        List<Integer> before = all(x);
        due(call, made.on(x), want);
        due(call + " changes nothing", all(x), before);
    }
}
