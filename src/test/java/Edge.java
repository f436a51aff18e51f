import java.util.ArrayList;
import java.util.List;

/**
 * A sentence of the document that names a boundary case, and runs of calls at that boundary. The
 * sentence begins with its promise's number or the word of its place in the document's terms; ".."
 * stands where words are left out. Each run is played on a new object, and is written as words with
 * blanks between:
 * <pre>
 * addScene(0,4)          a call that is to be done: its answer is not negative
 * cut(4)=BAD             a call and the answer that is due, a number or a name
 * show(0,*)=3,3,0        the call with 0, 1, 2 in the place of the star
 * text(c1;c2)            empties the text and types this one
 * reel=0:0-3,1:0-1/2     the pieces, scene:first-last, with /passes of the splice if not 0
 * can=0:0-3              likewise in the can
 * </pre>
 * Behind each answer that is an error or NONE, all is told once more: nothing may have changed. No
 * object is used for more calls than the document promises; more is told of by others like it.
 */
final class Edge {
    private static final int MOST_CALLS = 512;
    private static final int MOST_STATES = 4;

    private final String sentence;
    private final String[] runs;
    private final List<Due.Call> made = new ArrayList<>();
    private HoleReel object = new HoleReel();
    /** All that was told behind the latest call, or null if it was not asked. */
    private List<Integer> told;

    Edge(String sentence, String... runs) {
        this.sentence = sentence;
        this.runs = runs;
    }

    String sentence() {
        return sentence;
    }

    int runs() {
        return runs.length;
    }

    /** A text as often as there are numbers, with the number in the place of each @. */
    static String each(int from, int to, String text) {
        StringBuilder all = new StringBuilder();
        for (int i = from; i <= to; i++) {
            all.append(text.replace("@", "" + i)).append(' ');
        }
        return all.toString();
    }

    void check() {
        for (String run : runs) {
            Due.at(sentence + "\n  in " + run + "\n ");
            made.clear();
            object = new HoleReel();
            told = null;
            for (String word : run.trim().split(" +")) {
                playOrTell(word);
            }
        }
    }

    private void playOrTell(String word) {
        try {
            play(word);
        } catch (RuntimeException thrown) {
            Due.due(word, thrown, "an answer");
        }
    }

    private void play(String word) {
        int split = word.lastIndexOf('=');
        String call = split < 0 ? word : word.substring(0, split);
        String want = split < 0 ? "" : word.substring(split + 1);
        if (call.equals("reel")) {
            Due.due(call, Due.reel(anotherLike(made)).replace(' ', ','), want);
        } else if (call.equals("can")) {
            Due.due(call, Due.can(anotherLike(made)).replace(' ', ','), want);
        } else if (call.startsWith("text(")) {
            write(call.substring(5, call.length() - 1));
        } else if (call.contains("*")) {
            String[] wants = want.split(",");
            for (int i = 0; i < wants.length; i++) {
                make(call.replace("*", "" + i), wants[i]);
            }
        } else {
            make(call, want);
        }
    }

    private void write(String text) {
        make("clearText()", "");
        for (char sign : text.toCharArray()) {
            make("type(" + (int) sign + ")", "");
        }
    }

    private void make(String words, String want) {
        Due.Call call = Calls.of(words);
        boolean isRefused = !want.isEmpty() && Calls.number(want) < 0;
        List<Integer> before = isRefused ? toldNow() : null;
        int answer = call.on(object);
        made.add(call);
        told = null;
        Due.due("there is room for " + words, made.size() <= MOST_CALLS, true);
        if (want.isEmpty()) {
            Due.due(words + " (" + answer + ") is done", answer >= 0, true);
        } else {
            Due.due(words, answer, Calls.number(want));
        }
        if (isRefused) {
            Due.due(words + " changes nothing", toldNow().equals(before), true);
        }
    }

    private List<Integer> toldNow() {
        if (told == null) {
            told = tellAll();
        }
        return told;
    }

    /** What can be told now, what the text does, and what the snapshot and the history hold. */
    private List<Integer> tellAll() {
        List<Integer> all = new ArrayList<>(tellBehind(List.of()));
        all.addAll(tellBehind(List.of(HoleReel::edit)));
        all.addAll(tellBehind(List.of(HoleReel::restore)));
        List<Due.Call> undos = new ArrayList<>();
        for (int i = 0; i < MOST_STATES; i++) {
            undos.add(HoleReel::undo);
            all.addAll(tellBehind(undos));
        }
        return all;
    }

    private List<Integer> tellBehind(List<Due.Call> more) {
        List<Due.Call> path = new ArrayList<>(made);
        List<Integer> all = Due.answers(anotherLike(made), more);
        path.addAll(more);
        List<Due.Call> tellings = Due.allTellings(anotherLike(path));
        int room = MOST_CALLS - path.size();
        Due.due("there is room to tell all", room > 0, true);
        for (int from = 0; from < tellings.size() && room > 0; from += room) {
            int to = Math.min(from + room, tellings.size());
            all.addAll(Due.answers(anotherLike(path), tellings.subList(from, to)));
        }
        return all;
    }

    private static HoleReel anotherLike(List<Due.Call> calls) {
        HoleReel another = new HoleReel();
        calls.forEach(call -> call.on(another));
        return another;
    }
}
