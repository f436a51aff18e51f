import java.util.ArrayList;
import java.util.List;

/**
 * The calls that tell all of an object, by the sizes that it has: how many positions the reel has,
 * how many frames each scene and how many units each show (an error where there is none).
 */
final class Tellings {
    static final int LAST_COUNT_OF_A_STATE = 11;
    static final int LAST_COUNT = 13;
    private static final int PIECES = 20;
    private static final int SCENES = 12;
    private static final int SHOWS = 10;
    private static final int WITNESSES = 8;

    /** How far each number goes over its range, at both ends. */
    private final int over;
    private final List<Call> calls = new ArrayList<>();

    private Tellings(int over) {
        this.over = over;
    }

    /** The calls that tell the sizes. */
    static List<Call> sizes() {
        List<Call> calls = new ArrayList<>();
        calls.add(new Call("count", 3));
        for (int scene = 0; scene < SCENES; scene++) {
            calls.add(new Call("scene", scene, 1));
        }
        for (int show = 0; show < SHOWS; show++) {
            calls.add(new Call("show", show, 0));
        }
        return calls;
    }

    static List<Call> of(List<Integer> sizes, int lastCount, int over) {
        Tellings all = new Tellings(over);
        all.add("count", lastCount);
        all.add("next", 7);
        all.add("frameAt", sizes.get(0));
        for (int piece = -over; piece < PIECES + over; piece++) {
            all.addOf("piece", piece, 4);
            all.addOf("canned", piece, 2);
        }
        for (int scene = 0; scene < SCENES; scene++) {
            all.addScene(scene, sizes.get(1 + scene));
        }
        for (int show = 0; show < SHOWS; show++) {
            all.addOf("show", show, 7);
            all.addOf("seen", show, sizes.get(1 + SCENES + show));
        }
        for (int witness = -over; witness < WITNESSES + over; witness++) {
            all.addOf("witness", witness, 5);
            all.addOf("saw", witness, SCENES - 1);
            all.addOf("differ", witness, WITNESSES - 1);
        }
        return all.calls;
    }

    private void add(String name, int last) {
        for (int i = -over; i <= last + over; i++) {
            calls.add(new Call(name, i));
        }
    }

    private void addOf(String name, int one, int last) {
        for (int i = -over; i <= last + over; i++) {
            calls.add(new Call(name, one, i));
        }
    }

    private void addScene(int scene, int frames) {
        addOf("scene", scene, 5);
        for (int frame = 0; frame <= frames; frame++) {
            for (int what = -over; what <= 3 + over; what++) {
                calls.add(new Call("frame", scene, frame, what));
            }
        }
    }
}
