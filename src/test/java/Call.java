/** A call by its name and its numbers: a boolean is 0 or 1, a character its number. */
record Call(String name, int... n) {
    private static final String[] NAMES = {"UNKNOWN", "BAD", "FULL", "NOT", "NONE"};

    /** A call by its words, such as "move(0,2)" or "dislike(3,true)". */
    static Call of(String words) {
        int open = words.indexOf('(');
        String inside = words.substring(open + 1, words.length() - 1);
        String[] parts = inside.isEmpty() ? new String[0] : inside.split(",");
        int[] n = new int[parts.length];
        for (int i = 0; i < n.length; i++) {
            n[i] = number(parts[i]);
        }
        return new Call(words.substring(0, open), n);
    }

    /** A number by its digits, or one that has a name. */
    static int number(String word) {
        for (int i = 0; i < NAMES.length; i++) {
            if (word.equals(NAMES[i])) {
                return -1 - i;
            }
        }
        return switch (word) {
            case "MIN" -> Integer.MIN_VALUE;
            case "MAX" -> Integer.MAX_VALUE;
            case "false" -> 0;
            case "true" -> 1;
            default -> Integer.parseInt(word);
        };
    }

    int on(Face x) {
        return switch (name) {
            case "addScene" -> x.addScene(n[0], n[1]);
            case "cut" -> x.cut(n[0]);
            case "join" -> x.join(n[0]);
            case "takeOut" -> x.takeOut(n[0]);
            case "putIn" -> x.putIn(n[0], n[1]);
            case "move" -> x.move(n[0], n[1]);
            case "tear" -> x.tear(n[0], n[1], n[2]);
            case "patch" -> x.patch(n[0], n[1]);
            case "splice" -> x.splice(n[0]);
            case "dislike" -> x.dislike(n[0], n[1] != 0);
            case "set" -> x.set(n[0], n[1]);
            case "run" -> x.run();
            case "addWitness" -> x.addWitness(n[0], n[1], n[2]);
            case "type" -> x.type((char) n[0]);
            case "clearText" -> x.clearText();
            case "edit" -> x.edit();
            case "undo" -> x.undo();
            case "keep" -> x.keep();
            case "restore" -> x.restore();
            case "scene" -> x.scene(n[0], n[1]);
            case "piece" -> x.piece(n[0], n[1]);
            case "canned" -> x.canned(n[0], n[1]);
            case "frameAt" -> x.frameAt(n[0]);
            case "frame" -> x.frame(n[0], n[1], n[2]);
            case "show" -> x.show(n[0], n[1]);
            case "seen" -> x.seen(n[0], n[1]);
            case "witness" -> x.witness(n[0], n[1]);
            case "saw" -> x.saw(n[0], n[1]);
            case "differ" -> x.differ(n[0], n[1]);
            case "next" -> x.next(n[0]);
            case "count" -> x.count(n[0]);
            default -> throw new IllegalArgumentException(name);
        };
    }

    @Override
    public String toString() {
        StringBuilder words = new StringBuilder(name).append('(');
        for (int i = 0; i < n.length; i++) {
            words.append(i == 0 ? "" : ", ").append(n[i]);
        }
        return words.append(')').toString();
    }
}
