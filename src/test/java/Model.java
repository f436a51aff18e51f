import java.util.ArrayList;
import java.util.LinkedList;
import java.util.List;
import java.util.Map;
import java.util.TreeMap;
import java.util.TreeSet;
import java.util.regex.Matcher;
import java.util.regex.Pattern;

/**
 * The document's words once more, in the plainest form: a piece is a list of its frames' codes
 * (100 * scene + frame), a state is copied whole for each act, and a splice is found new by a look
 * at which frame stood behind which one before.
 */
final class Model implements Face {
    private static final int UNKNOWN = -1;
    private static final int BAD_VALUE = -2;
    private static final int FULL = -3;
    private static final int NOT_POSSIBLE = -4;
    private static final int NONE = -5;
    private static final String NUMBER = "(?:0|[1-9][0-9]{0,2})";
    private static final String EDIT = "(?:[cjo]" + NUMBER + "|[im]" + NUMBER + "," + NUMBER + ")";
    private static final Pattern EDITS = Pattern.compile(EDIT + "(?:;" + EDIT + ")*");

    private static final class Frame {
        final TreeSet<Integer> torn = new TreeSet<>();
        int passes;

        int good() {
            return 4 - torn.size();
        }
    }

    private static final class Shown {
        final List<Integer> units = new ArrayList<>();
        final int[] numbers = new int[8];
    }

    private static final class State {
        List<Integer> kinds = new ArrayList<>();
        Map<Integer, Frame> frames = new TreeMap<>();
        List<List<Integer>> reel = new ArrayList<>();
        List<List<Integer>> can = new ArrayList<>();
        /** The passes of a piece's splice, by the code of its first frame. */
        Map<Integer, Integer> splices = new TreeMap<>();
        List<Shown> shows = new ArrayList<>();
        List<int[]> witnesses = new ArrayList<>();
        TreeSet<Integer> disliked = new TreeSet<>();
        int energy = 3;
        int limit = 5;

        State copy() {
            State to = new State();
            to.kinds.addAll(kinds);
            for (Map.Entry<Integer, Frame> entry : frames.entrySet()) {
                Frame frame = new Frame();
                frame.torn.addAll(entry.getValue().torn);
                frame.passes = entry.getValue().passes;
                to.frames.put(entry.getKey(), frame);
            }
            reel.forEach(piece -> to.reel.add(new ArrayList<>(piece)));
            can.forEach(piece -> to.can.add(new ArrayList<>(piece)));
            to.splices.putAll(splices);
            to.shows.addAll(shows);
            to.witnesses.addAll(witnesses);
            to.disliked.addAll(disliked);
            to.energy = energy;
            to.limit = limit;
            return to;
        }

        List<Integer> row() {
            List<Integer> row = new ArrayList<>();
            reel.forEach(row::addAll);
            return row;
        }

        /** What stands ahead of each piece, by its first frame. */
        Map<Integer, Integer> framesAhead() {
            Map<Integer, Integer> ahead = new TreeMap<>();
            for (int i = 1; i < reel.size(); i++) {
                List<Integer> before = reel.get(i - 1);
                ahead.put(reel.get(i).get(0), before.get(before.size() - 1));
            }
            return ahead;
        }
    }

    private interface Change {
        int on(State state);
    }

    private State now = new State();
    private State kept;
    private final LinkedList<State> history = new LinkedList<>();
    private String text = "";

    private int act(Change change) {
        State before = now.copy();
        int answer = change.on(now);
        if (answer < 0) {
            now = before;
        } else {
            remember(before);
        }
        return answer;
    }

    private void remember(State before) {
        history.addLast(before);
        if (history.size() > 4) {
            history.removeFirst();
        }
    }

    /** A change of the pieces, behind which the splices between other frames are new. */
    private static int respliced(State s, Change change) {
        Map<Integer, Integer> before = s.framesAhead();
        int answer = change.on(s);
        Map<Integer, Integer> after = s.framesAhead();
        Map<Integer, Integer> splices = new TreeMap<>();
        for (Integer first : after.keySet()) {
            boolean isOld = after.get(first).equals(before.get(first));
            splices.put(first, isOld ? s.splices.get(first) : 0);
        }
        s.splices = splices;
        return answer;
    }

    // ---- film

    @Override
    public int addScene(int kind, int frames) {
        return act(s -> respliced(s, t -> {
            if (kind < 0 || kind > 5 || frames < 1 || frames > 40) {
                return BAD_VALUE;
            }
            if (t.kinds.size() == 12 || t.reel.size() == 20) {
                return FULL;
            }
            List<Integer> piece = new ArrayList<>();
            for (int frame = 0; frame < frames; frame++) {
                piece.add(100 * t.kinds.size() + frame);
                t.frames.put(100 * t.kinds.size() + frame, new Frame());
            }
            t.reel.add(piece);
            t.kinds.add(kind);
            return t.kinds.size() - 1;
        }));
    }

    @Override
    public int cut(int position) {
        return act(s -> respliced(s, t -> cutIn(t, position)));
    }

    @Override
    public int join(int piece) {
        return act(s -> respliced(s, t -> joinIn(t, piece)));
    }

    @Override
    public int takeOut(int piece) {
        return act(s -> respliced(s, t -> takeOutIn(t, piece)));
    }

    @Override
    public int putIn(int piece, int at) {
        return act(s -> respliced(s, t -> putInIn(t, piece, at)));
    }

    @Override
    public int move(int piece, int to) {
        return act(s -> respliced(s, t -> moveIn(t, piece, to)));
    }

    private static int cutIn(State s, int position) {
        List<Integer> row = s.row();
        if (position < 0 || position >= row.size()) {
            return BAD_VALUE;
        }
        int code = row.get(position);
        for (int i = 0; i < s.reel.size(); i++) {
            List<Integer> piece = s.reel.get(i);
            int index = piece.indexOf(code);
            if (index == 0) {
                return NONE;
            }
            if (index > 0) {
                if (s.reel.size() == 20) {
                    return FULL;
                }
                s.reel.set(i, new ArrayList<>(piece.subList(0, index)));
                s.reel.add(i + 1, new ArrayList<>(piece.subList(index, piece.size())));
                return i + 1;
            }
        }
        throw new IllegalStateException("a position without a piece");
    }

    private static int joinIn(State s, int piece) {
        if (isNoIndex(piece, s.reel)) {
            return UNKNOWN;
        }
        if (piece == s.reel.size() - 1) {
            return NOT_POSSIBLE;
        }
        List<Integer> one = s.reel.get(piece);
        List<Integer> other = s.reel.get(piece + 1);
        if (one.get(one.size() - 1) + 1 != other.get(0)) {
            return NOT_POSSIBLE;
        }
        one.addAll(s.reel.remove(piece + 1));
        return one.size();
    }

    private static int takeOutIn(State s, int piece) {
        if (isNoIndex(piece, s.reel)) {
            return UNKNOWN;
        }
        if (s.can.size() == 20) {
            return FULL;
        }
        s.can.add(s.reel.remove(piece));
        return s.reel.size();
    }

    private static int putInIn(State s, int piece, int at) {
        if (isNoIndex(piece, s.can)) {
            return UNKNOWN;
        }
        if (at < 0 || at > s.reel.size()) {
            return BAD_VALUE;
        }
        if (s.reel.size() == 20) {
            return FULL;
        }
        s.reel.add(at, s.can.remove(piece));
        return s.can.size();
    }

    private static int moveIn(State s, int piece, int to) {
        if (isNoIndex(piece, s.reel) || isNoIndex(to, s.reel)) {
            return UNKNOWN;
        }
        if (piece == to) {
            return NONE;
        }
        List<Integer> moved = s.reel.remove(piece);
        s.reel.add(to, moved);
        return s.row().indexOf(moved.get(0));
    }

    private static boolean isNoIndex(int index, List<?> list) {
        return index < 0 || index >= list.size();
    }

    private boolean isNoFrame(int scene, int frame) {
        return scene < 0 || scene >= now.kinds.size() || frame < 0 || frame >= 40
                || !now.frames.containsKey(100 * scene + frame);
    }

    @Override
    public int tear(int scene, int frame, int hole) {
        return act(s -> isNoFrame(scene, frame) ? UNKNOWN
                : hole < 0 || hole > 3 ? BAD_VALUE
                : s.frames.get(100 * scene + frame).torn.add(hole)
                ? s.frames.get(100 * scene + frame).good() : NONE);
    }

    @Override
    public int patch(int scene, int frame) {
        return act(s -> {
            if (isNoFrame(scene, frame)) {
                return UNKNOWN;
            }
            TreeSet<Integer> torn = s.frames.get(100 * scene + frame).torn;
            int had = torn.size();
            torn.clear();
            return had == 0 ? NONE : had;
        });
    }

    @Override
    public int splice(int piece) {
        return act(s -> {
            if (isNoIndex(piece, s.reel)) {
                return UNKNOWN;
            }
            Integer had = s.splices.replace(s.reel.get(piece).get(0), 0);
            return had == null || had == 0 ? NONE : had;
        });
    }

    // ---- shows

    @Override
    public int dislike(int kind, boolean is) {
        return act(s -> kind < 0 || kind > 5 ? BAD_VALUE
                : (is ? s.disliked.add(kind) : s.disliked.remove(kind)) ? s.disliked.size() : NONE);
    }

    @Override
    public int set(int what, int value) {
        return act(s -> {
            if (what == 0 && value >= 0 && value <= 20) {
                int had = s.energy;
                s.energy = value;
                return had == value ? NONE : had;
            }
            if (what == 1 && value >= 1 && value <= 20) {
                int had = s.limit;
                s.limit = value;
                return had == value ? NONE : had;
            }
            return BAD_VALUE;
        });
    }

    @Override
    public int run() {
        return act(s -> {
            if (s.reel.isEmpty()) {
                return NOT_POSSIBLE;
            }
            if (s.shows.size() == 10) {
                return FULL;
            }
            s.shows.add(project(s));
            return s.shows.size() - 1;
        });
    }

    private static Shown project(State s) {
        Shown shown = new Shown();
        int[] n = shown.numbers;
        n[6] = NONE;
        int left = s.energy;
        int good = 0;
        for (int i = 0; i < s.reel.size(); i++) {
            List<Integer> piece = s.reel.get(i);
            if (i > 0 && s.splices.merge(piece.get(0), 1, Integer::sum) > s.limit) {
                n[6] = i;
                break;
            }
            boolean isWound = s.disliked.contains(s.kinds.get(piece.get(0) / 100)) && left > 0;
            if (isWound) {
                left--;
                n[7]++;
                for (int u = 0; u < (piece.size() + 3) / 4; u++) {
                    shown.units.add(NONE);
                }
            }
            for (int code : piece) {
                Frame frame = s.frames.get(code);
                good += frame.good();
                n[4] += isWound ? frame.good() / 2 : frame.good();
                n[isWound ? 3 : frame.good() >= 2 ? 1 : 2]++;
                if (!isWound) {
                    shown.units.add(frame.good() >= 2 ? code : NONE);
                }
                wear(frame);
            }
        }
        n[5] = good - n[4];
        n[0] = shown.units.size();
        return shown;
    }

    private static void wear(Frame frame) {
        frame.passes++;
        if (frame.torn.isEmpty() || frame.passes % 3 != 0) {
            return;
        }
        for (int hole = 0; hole < 4; hole++) {
            if (frame.torn.add(hole)) {
                return;
            }
        }
    }

    @Override
    public int addWitness(int show, int from, int to) {
        return act(s -> {
            if (isNoIndex(show, s.shows)) {
                return UNKNOWN;
            }
            if (from < 0 || to <= from || to > s.shows.get(show).units.size()) {
                return BAD_VALUE;
            }
            if (s.witnesses.size() == 8) {
                return FULL;
            }
            s.witnesses.add(new int[] {show, from, to});
            return s.witnesses.size() - 1;
        });
    }

    // ---- texts

    @Override
    public int type(char character) {
        if (text.length() == 60) {
            return FULL;
        }
        text += character;
        return text.length();
    }

    @Override
    public int clearText() {
        int length = text.length();
        text = "";
        return length;
    }

    @Override
    public int edit() {
        for (int i = 1; i <= text.length(); i++) {
            Matcher matcher = EDITS.matcher(text.substring(0, i));
            if (!matcher.matches() && !matcher.hitEnd()) {
                return -100 - (i - 1);
            }
        }
        if (!EDITS.matcher(text).matches()) {
            return -100 - text.length();
        }
        return act(s -> {
            String[] edits = text.split(";");
            for (String edit : edits) {
                int answer = respliced(s, t -> editIn(t, edit));
                if (answer < 0 && answer != NONE) {
                    return answer;
                }
            }
            return edits.length;
        });
    }

    private static int editIn(State s, String edit) {
        String[] numbers = edit.substring(1).split(",");
        int one = Integer.parseInt(numbers[0]);
        int other = Integer.parseInt(numbers[numbers.length - 1]);
        return switch (edit.charAt(0)) {
            case 'c' -> cutIn(s, one);
            case 'j' -> joinIn(s, one);
            case 'o' -> takeOutIn(s, one);
            case 'i' -> putInIn(s, one, other);
            default -> moveIn(s, one, other);
        };
    }

    // ---- history

    @Override
    public int undo() {
        if (history.isEmpty()) {
            return NONE;
        }
        now = history.removeLast();
        return history.size();
    }

    @Override
    public int keep() {
        kept = now.copy();
        return now.reel.size();
    }

    @Override
    public int restore() {
        if (kept == null) {
            return NONE;
        }
        remember(now);
        now = kept.copy();
        return now.reel.size();
    }

    // ---- what is told

    @Override
    public int scene(int scene, int what) {
        if (isNoIndex(scene, now.kinds)) {
            return UNKNOWN;
        }
        return switch (what) {
            case 0 -> now.kinds.get(scene);
            case 1 -> (int) now.frames.keySet().stream().filter(code -> code / 100 == scene).count();
            case 2 -> (int) now.row().stream().filter(code -> code / 100 == scene).count();
            case 3 -> {
                List<List<Integer>> pieces = new ArrayList<>(now.reel);
                pieces.addAll(now.can);
                yield (int) pieces.stream().filter(piece -> piece.get(0) / 100 == scene).count();
            }
            case 4 -> now.frames.entrySet().stream().filter(e -> e.getKey() / 100 == scene)
                    .mapToInt(e -> e.getValue().torn.size()).sum();
            case 5 -> {
                List<Integer> its = now.row().stream().filter(code -> code / 100 == scene).toList();
                yield its.equals(its.stream().sorted().toList()) ? 1 : 0;
            }
            default -> BAD_VALUE;
        };
    }

    @Override
    public int piece(int piece, int what) {
        if (isNoIndex(piece, now.reel)) {
            return UNKNOWN;
        }
        List<Integer> its = now.reel.get(piece);
        return switch (what) {
            case 0, 1, 2 -> tellPiece(its, what);
            case 3 -> now.row().indexOf(its.get(0));
            case 4 -> now.splices.getOrDefault(its.get(0), 0);
            default -> BAD_VALUE;
        };
    }

    @Override
    public int canned(int piece, int what) {
        return isNoIndex(piece, now.can) ? UNKNOWN
                : what < 0 || what > 2 ? BAD_VALUE : tellPiece(now.can.get(piece), what);
    }

    private static int tellPiece(List<Integer> piece, int what) {
        return what == 0 ? piece.get(0) / 100
                : what == 1 ? piece.get(0) % 100 : piece.get(piece.size() - 1) % 100;
    }

    @Override
    public int frameAt(int position) {
        List<Integer> row = now.row();
        return position < 0 ? BAD_VALUE : position >= row.size() ? NONE : row.get(position);
    }

    @Override
    public int frame(int scene, int frame, int what) {
        if (isNoFrame(scene, frame)) {
            return UNKNOWN;
        }
        Frame its = now.frames.get(100 * scene + frame);
        return switch (what) {
            case 0 -> {
                int position = now.row().indexOf(100 * scene + frame);
                yield position < 0 ? NONE : position;
            }
            case 1 -> bits(its.torn);
            case 2 -> its.passes;
            case 3 -> its.good() >= 2 ? 1 : 0;
            default -> BAD_VALUE;
        };
    }

    private static int bits(TreeSet<Integer> numbers) {
        return numbers.stream().mapToInt(number -> 1 << number).sum();
    }

    @Override
    public int show(int show, int what) {
        return isNoIndex(show, now.shows) ? UNKNOWN
                : what < 0 || what > 7 ? BAD_VALUE : now.shows.get(show).numbers[what];
    }

    @Override
    public int seen(int show, int unit) {
        return isNoIndex(show, now.shows) ? UNKNOWN
                : isNoIndex(unit, now.shows.get(show).units) ? BAD_VALUE
                : now.shows.get(show).units.get(unit);
    }

    private List<Integer> framesSeenBy(int witness) {
        int[] its = now.witnesses.get(witness);
        return now.shows.get(its[0]).units.subList(its[1], its[2]).stream()
                .filter(code -> code != NONE).toList();
    }

    private TreeSet<Integer> scenesSeenBy(int witness) {
        TreeSet<Integer> scenes = new TreeSet<>();
        framesSeenBy(witness).forEach(code -> scenes.add(code / 100));
        return scenes;
    }

    @Override
    public int witness(int witness, int what) {
        if (isNoIndex(witness, now.witnesses)) {
            return UNKNOWN;
        }
        int[] its = now.witnesses.get(witness);
        return switch (what) {
            case 0, 1, 2 -> its[what];
            case 3 -> framesSeenBy(witness).size();
            case 4 -> its[2] - its[1] - framesSeenBy(witness).size();
            case 5 -> bits(scenesSeenBy(witness));
            default -> BAD_VALUE;
        };
    }

    @Override
    public int saw(int witness, int scene) {
        if (isNoIndex(witness, now.witnesses) || isNoIndex(scene, now.kinds)) {
            return UNKNOWN;
        }
        return (int) framesSeenBy(witness).stream().filter(code -> code / 100 == scene).count();
    }

    @Override
    public int differ(int witness, int other) {
        if (isNoIndex(witness, now.witnesses) || isNoIndex(other, now.witnesses)) {
            return UNKNOWN;
        }
        if (now.witnesses.get(witness)[0] != now.witnesses.get(other)[0]) {
            return NOT_POSSIBLE;
        }
        TreeSet<Integer> one = scenesSeenBy(witness);
        TreeSet<Integer> two = scenesSeenBy(other);
        TreeSet<Integer> both = new TreeSet<>(one);
        both.retainAll(two);
        return one.size() + two.size() - 2 * both.size();
    }

    @Override
    public int next(int what) {
        return what < 0 || what > 7 ? BAD_VALUE
                : now.reel.isEmpty() ? NOT_POSSIBLE : project(now.copy()).numbers[what];
    }

    @Override
    public int count(int what) {
        return switch (what) {
            case 0 -> now.kinds.size();
            case 1 -> now.reel.size();
            case 2 -> now.can.size();
            case 3 -> now.row().size();
            case 4 -> now.frames.size() - now.row().size();
            case 5 -> now.shows.size();
            case 6 -> now.witnesses.size();
            case 7 -> bits(now.disliked);
            case 8 -> now.energy;
            case 9 -> now.limit;
            case 10 -> now.frames.values().stream().mapToInt(frame -> frame.torn.size()).sum();
            case 11 -> (int) now.splices.values().stream().filter(p -> p >= now.limit).count();
            case 12 -> history.size();
            case 13 -> text.length();
            default -> BAD_VALUE;
        };
    }
}
