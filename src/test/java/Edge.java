import java.util.List;

/**
 * A sentence of the document that names a boundary case, and runs of calls at that boundary. The
 * sentence begins with its promise's number or the word of its place in the document's terms; ".."
 * stands where words are left out. Each run is played on a new object, and is written as words with
 * blanks between:
 * <pre>
 * addScene(0,4)          a call that is to be done: its answer is not negative
 * cut(4)=BAD             a call and the answer that is due, a number or a name
 * show(0,*)=3,3,0        the call with 0, 1, 2 in the place of the star
 * text(c1;c2)            empties the text and types this one
 * reel=0:0-3,1:0-1/2     the pieces, scene:first-last, with /passes of the splice if not 0
 * can=0:0-3              likewise in the can
 * </pre>
 * Behind each answer that is an error or NONE, all is told once more: nothing may have changed.
 */
final class Edge {
    private final String sentence;
    private final String[] runs;
    private Played object = new Played();

    Edge(String sentence, String... runs) {
        this.sentence = sentence;
        this.runs = runs;
    }

    String sentence() {
        return sentence;
    }

    int runs() {
        return runs.length;
    }

    /** A text as often as there are numbers, with the number in the place of each @. */
    static String each(int from, int to, String text) {
        StringBuilder all = new StringBuilder();
        for (int i = from; i <= to; i++) {
            all.append(text.replace("@", "" + i)).append(' ');
        }
        return all.toString();
    }

    void check() {
        for (String run : runs) {
            Due.at(sentence + "\n  in " + run + "\n ");
            object = new Played();
            for (String word : run.trim().split(" +")) {
                playOrTell(word);
            }
        }
    }

    private void playOrTell(String word) {
        try {
            play(word);
        } catch (RuntimeException thrown) {
            Due.due(word, thrown, "an answer");
        }
    }

    private void play(String word) {
        int split = word.lastIndexOf('=');
        String call = split < 0 ? word : word.substring(0, split);
        String want = split < 0 ? "" : word.substring(split + 1);
        if (call.equals("reel")) {
            Due.due(call, object.reel().replace(' ', ','), want);
        } else if (call.equals("can")) {
            Due.due(call, object.can().replace(' ', ','), want);
        } else if (call.startsWith("text(")) {
            write(call.substring(5, call.length() - 1));
        } else if (call.contains("*")) {
            String[] wants = want.split(",");
            for (int i = 0; i < wants.length; i++) {
                make(call.replace("*", "" + i), wants[i]);
            }
        } else {
            make(call, want);
        }
    }

    private void write(String text) {
        make("clearText()", "");
        for (char sign : text.toCharArray()) {
            make("type(" + (int) sign + ")", "");
        }
    }

    private void make(String words, String want) {
        Call call = Call.of(words);
        boolean isRefused = !want.isEmpty() && Call.number(want) < 0;
        List<Integer> before = isRefused ? object.everything() : null;
        int answer = call.on(object);
        if (want.isEmpty()) {
            Due.due(words + " (" + answer + ") is done", answer >= 0, true);
        } else {
            Due.due(words, answer, Call.number(want));
        }
        if (isRefused) {
            Due.due(words + " changes nothing", object.everything().equals(before), true);
        }
    }
}
