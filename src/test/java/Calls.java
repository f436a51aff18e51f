/** The calls of HoleReel by their words, such as "move(0,2)" or "dislike(3,true)". */
final class Calls {
    private static final String[] NAMES = {"UNKNOWN", "BAD", "FULL", "NOT", "NONE"};

    private Calls() {
    }

    /** A number by its digits, or one that has a name. */
    static int number(String word) {
        for (int i = 0; i < NAMES.length; i++) {
            if (word.equals(NAMES[i])) {
                return -1 - i;
            }
        }
        return switch (word) {
            case "MIN" -> Integer.MIN_VALUE;
            case "MAX" -> Integer.MAX_VALUE;
            case "false" -> 0;
            case "true" -> 1;
            default -> Integer.parseInt(word);
        };
    }

    static Due.Call of(String words) {
        int open = words.indexOf('(');
        String name = words.substring(0, open);
        String inside = words.substring(open + 1, words.length() - 1);
        String[] parts = inside.isEmpty() ? new String[0] : inside.split(",");
        int[] n = new int[parts.length];
        for (int i = 0; i < n.length; i++) {
            n[i] = number(parts[i]);
        }
        return switch (n.length) {
            case 0 -> ofNone(name);
            case 1 -> ofOne(name, n[0]);
            case 2 -> ofTwo(name, n[0], n[1]);
            default -> ofThree(name, n[0], n[1], n[2]);
        };
    }

    private static Due.Call ofNone(String name) {
        return switch (name) {
            case "run" -> HoleReel::run;
            case "clearText" -> HoleReel::clearText;
            case "edit" -> HoleReel::edit;
            case "undo" -> HoleReel::undo;
            case "keep" -> HoleReel::keep;
            case "restore" -> HoleReel::restore;
            default -> throw new IllegalArgumentException(name);
        };
    }

    private static Due.Call ofOne(String name, int a) {
        return switch (name) {
            case "cut" -> x -> x.cut(a);
            case "join" -> x -> x.join(a);
            case "takeOut" -> x -> x.takeOut(a);
            case "splice" -> x -> x.splice(a);
            case "type" -> x -> x.type((char) a);
            case "frameAt" -> x -> x.frameAt(a);
            case "next" -> x -> x.next(a);
            case "count" -> x -> x.count(a);
            default -> throw new IllegalArgumentException(name);
        };
    }

    private static Due.Call ofTwo(String name, int a, int b) {
        return switch (name) {
            case "addScene" -> x -> x.addScene(a, b);
            case "putIn" -> x -> x.putIn(a, b);
            case "move" -> x -> x.move(a, b);
            case "patch" -> x -> x.patch(a, b);
            case "dislike" -> x -> x.dislike(a, b != 0);
            case "set" -> x -> x.set(a, b);
            case "scene" -> x -> x.scene(a, b);
            case "piece" -> x -> x.piece(a, b);
            case "canned" -> x -> x.canned(a, b);
            case "show" -> x -> x.show(a, b);
            case "seen" -> x -> x.seen(a, b);
            case "witness" -> x -> x.witness(a, b);
            case "saw" -> x -> x.saw(a, b);
            case "differ" -> x -> x.differ(a, b);
            default -> throw new IllegalArgumentException(name);
        };
    }

    private static Due.Call ofThree(String name, int a, int b, int c) {
        return switch (name) {
            case "tear" -> x -> x.tear(a, b, c);
            case "addWitness" -> x -> x.addWitness(a, b, c);
            case "frame" -> x -> x.frame(a, b, c);
            default -> throw new IllegalArgumentException(name);
        };
    }
}
