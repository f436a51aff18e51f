import java.util.ArrayList;
import java.util.List;

/** What all tests share: a tally of the answers that were not due. */
final class Due {
    static final int UNKNOWN = -1;
    static final int BAD_VALUE = -2;
    static final int FULL = -3;
    static final int NOT_POSSIBLE = -4;
    static final int NONE = -5;
    static final int[] WILD = {Integer.MIN_VALUE, -100, -1, 100, Integer.MAX_VALUE};

    private static int wrong;
    private static String place = "";

    private Due() {
    }

    static void at(String newPlace) {
        place = newPlace;
    }

    static void due(String call, Object got, Object want) {
        if (!got.equals(want)) {
            wrong++;
            System.out.println(place + ": " + call + " answered " + got + ", due is " + want);
        }
    }

    static boolean isWrong() {
        return wrong != 0;
    }

    static void end() {
        System.out.println(wrong == 0 ? "all answers are as due" : wrong + " answers are not as due");
        if (wrong != 0) {
            System.exit(1);
        }
    }

    static void write(Face x, String text) {
        for (char c : text.toCharArray()) {
            x.type(c);
        }
    }

    static int edit(Face x, String text) {
        x.clearText();
        write(x, text);
        return x.edit();
    }

    static String numbersOfShow(Face x, int show) {
        List<Integer> told = new ArrayList<>();
        for (int what = 0; what < 8; what++) {
            told.add(x.show(show, what));
        }
        return told.toString();
    }

    static String numbersOfNext(Face x) {
        List<Integer> told = new ArrayList<>();
        for (int what = 0; what < 8; what++) {
            told.add(x.next(what));
        }
        return told.toString();
    }

    /** What is done with an object, and what it answers. */
    interface Act {
        int on(Face x);
    }

    /** An act that should answer an error or NONE, and change nothing. */
    static void refused(Played x, String call, int want, Act act) {
        List<Integer> before = x.everything();
        due(call, act.on(x), want);
        due(call + " changes nothing", x.everything().equals(before), true);
    }
}
