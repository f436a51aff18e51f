import java.util.ArrayList;
import java.util.Collections;
import java.util.List;

/**
 * A HoleReel that remembers its calls and makes no more of them than the document promises: what is
 * told at length is asked of others like it, which are made anew and have had the same calls.
 */
final class Played implements Face {
    private static final int MOST_CALLS = 512;
    private static final int MOST_STATES = 4;

    private final HoleReel object = new HoleReel();
    private final List<Call> made = new ArrayList<>();
    /** What everything() answered, until the next call. */
    private List<Integer> everything;

    int callsLeft() {
        return MOST_CALLS - made.size();
    }

    Played another() {
        Played another = new Played();
        made.forEach(call -> call.on(another));
        return another;
    }

    /** All that is told of a state, so without the history and the text. */
    List<Integer> state() {
        return told(Tellings.LAST_COUNT_OF_A_STATE);
    }

    /** All that is told now. */
    List<Integer> told() {
        return told(Tellings.LAST_COUNT);
    }

    /** All that is told now, what the text does, and what the snapshot and the history hold. */
    List<Integer> everything() {
        if (everything == null) {
            everything = told();
            everything.addAll(toldBehind(List.of("edit")));
            everything.addAll(toldBehind(List.of("restore")));
            everything.addAll(toldBehind(Collections.nCopies(MOST_STATES, "undo")));
        }
        return everything;
    }

    /** What some calls more would answer, and what would be told behind each. */
    private List<Integer> toldBehind(List<String> names) {
        Played another = another();
        List<Integer> told = new ArrayList<>();
        for (String name : names) {
            told.add(new Call(name).on(another));
            told.addAll(another.told());
        }
        return told;
    }

    private List<Integer> told(int lastCount) {
        return ask(Tellings.of(ask(Tellings.sizes()), lastCount, 0));
    }

    /** The answers of objects like this one, of which each has as many calls as it has room for. */
    private List<Integer> ask(List<Call> calls) {
        List<Integer> told = new ArrayList<>();
        Played another = this;
        for (Call call : calls) {
            if (another == this || another.callsLeft() <= 0) {
                another = another();
            }
            told.add(call.on(another));
        }
        return told;
    }

    /** The pieces of the reel, as "scene:first-last", with "/passes" of the splice where not 0. */
    String reel() {
        StringBuilder row = new StringBuilder();
        int pieces = ask(List.of(new Call("count", 1))).get(0);
        for (int i = 0; i < pieces; i++) {
            List<Integer> piece = ask(List.of(new Call("piece", i, 0), new Call("piece", i, 1),
                    new Call("piece", i, 2), new Call("piece", i, 4)));
            addPiece(row, piece);
            if (piece.get(3) != 0) {
                row.append('/').append(piece.get(3));
            }
        }
        return row.toString();
    }

    String can() {
        StringBuilder row = new StringBuilder();
        int pieces = ask(List.of(new Call("count", 2))).get(0);
        for (int i = 0; i < pieces; i++) {
            addPiece(row, ask(List.of(new Call("canned", i, 0), new Call("canned", i, 1),
                    new Call("canned", i, 2))));
        }
        return row.toString();
    }

    private static void addPiece(StringBuilder row, List<Integer> piece) {
        row.append(row.isEmpty() ? "" : " ").append(piece.get(0)).append(':').append(piece.get(1))
                .append('-').append(piece.get(2));
    }

    private int note(int answer, String name, int... n) {
        if (callsLeft() <= 0) {
            Due.due("the calls left for " + name, callsLeft(), "more than 0");
        }
        made.add(new Call(name, n));
        everything = null;
        return answer;
    }

    @Override
    public int addScene(int kind, int frames) {
        return note(object.addScene(kind, frames), "addScene", kind, frames);
    }

    @Override
    public int cut(int position) {
        return note(object.cut(position), "cut", position);
    }

    @Override
    public int join(int piece) {
        return note(object.join(piece), "join", piece);
    }

    @Override
    public int takeOut(int piece) {
        return note(object.takeOut(piece), "takeOut", piece);
    }

    @Override
    public int putIn(int piece, int at) {
        return note(object.putIn(piece, at), "putIn", piece, at);
    }

    @Override
    public int move(int piece, int to) {
        return note(object.move(piece, to), "move", piece, to);
    }

    @Override
    public int tear(int scene, int frame, int hole) {
        return note(object.tear(scene, frame, hole), "tear", scene, frame, hole);
    }

    @Override
    public int patch(int scene, int frame) {
        return note(object.patch(scene, frame), "patch", scene, frame);
    }

    @Override
    public int splice(int piece) {
        return note(object.splice(piece), "splice", piece);
    }

    @Override
    public int dislike(int kind, boolean is) {
        return note(object.dislike(kind, is), "dislike", kind, is ? 1 : 0);
    }

    @Override
    public int set(int what, int value) {
        return note(object.set(what, value), "set", what, value);
    }

    @Override
    public int run() {
        return note(object.run(), "run");
    }

    @Override
    public int addWitness(int show, int from, int to) {
        return note(object.addWitness(show, from, to), "addWitness", show, from, to);
    }

    @Override
    public int type(char character) {
        return note(object.type(character), "type", character);
    }

    @Override
    public int clearText() {
        return note(object.clearText(), "clearText");
    }

    @Override
    public int edit() {
        return note(object.edit(), "edit");
    }

    @Override
    public int undo() {
        return note(object.undo(), "undo");
    }

    @Override
    public int keep() {
        return note(object.keep(), "keep");
    }

    @Override
    public int restore() {
        return note(object.restore(), "restore");
    }

    @Override
    public int scene(int scene, int what) {
        return note(object.scene(scene, what), "scene", scene, what);
    }

    @Override
    public int piece(int piece, int what) {
        return note(object.piece(piece, what), "piece", piece, what);
    }

    @Override
    public int canned(int piece, int what) {
        return note(object.canned(piece, what), "canned", piece, what);
    }

    @Override
    public int frameAt(int position) {
        return note(object.frameAt(position), "frameAt", position);
    }

    @Override
    public int frame(int scene, int frame, int what) {
        return note(object.frame(scene, frame, what), "frame", scene, frame, what);
    }

    @Override
    public int show(int show, int what) {
        return note(object.show(show, what), "show", show, what);
    }

    @Override
    public int seen(int show, int unit) {
        return note(object.seen(show, unit), "seen", show, unit);
    }

    @Override
    public int witness(int witness, int what) {
        return note(object.witness(witness, what), "witness", witness, what);
    }

    @Override
    public int saw(int witness, int scene) {
        return note(object.saw(witness, scene), "saw", witness, scene);
    }

    @Override
    public int differ(int witness, int other) {
        return note(object.differ(witness, other), "differ", witness, other);
    }

    @Override
    public int next(int what) {
        return note(object.next(what), "next", what);
    }

    @Override
    public int count(int what) {
        return note(object.count(what), "count", what);
    }
}
