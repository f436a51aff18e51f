import java.util.ArrayList;
import java.util.List;

/** Promises 18 to 20: undo, keep and restore. */
public final class HistoryTest {
    private HistoryTest() {
    }

    public static void main(String[] args) {
        undo();
        undoOfEachAct();
        keep();
        restore();
        twoFilms();
        Due.end();
    }

    private static void undo() {
        Due.at("promise 18");
        Played x = new Played();
        Due.refused(x, "undo() of nothing", Due.NONE, Face::undo);
        for (int i = 0; i < 6; i++) {
            x.addScene(i, i + 1);
            Due.due("states", x.count(12), Math.min(i + 1, 4));
        }
        for (int i = 3; i >= 0; i--) {
            Due.due("undo()", x.undo(), i);
            Due.due("scenes", x.count(0), i + 2);
        }
        Due.refused(x, "undo() of what was dropped", Due.NONE, Face::undo);
        x.addScene(5, 5);
        Due.due("states", x.count(12), 1);
        x.cut(99);
        x.cut(0);
        x.type('c');
        x.clearText();
        x.keep();
        Due.due("no acts", x.count(12), 1);
        Due.due("undo()", x.undo(), 0);
        Due.due("scenes", x.count(0), 2);
    }

    /** A full object with a bit of everything. */
    private static Played rich() {
        Played x = new Played();
        for (int i = 0; i < 5; i++) {
            x.addScene(i, 6 + i);
        }
        x.dislike(1, true);
        x.tear(0, 2, 1);
        x.tear(3, 2, 1);
        x.tear(3, 2, 2);
        x.tear(3, 2, 3);
        x.run();
        x.cut(3);
        x.takeOut(3);
        x.run();
        x.addWitness(0, 1, 20);
        x.addWitness(1, 4, 9);
        return x;
    }

    private static void undoOfEachAct() {
        Due.Act[] acts = {r -> r.addScene(0, 7), r -> r.cut(1), r -> r.join(0), r -> r.takeOut(2),
            r -> r.putIn(0, 1), r -> r.move(1, 3), r -> r.tear(2, 2, 2), r -> r.patch(3, 2),
            r -> r.splice(2), r -> r.dislike(1, false), r -> r.set(0, 1), r -> r.set(1, 1),
            Face::run, r -> r.addWitness(0, 3, 6), r -> Due.edit(r, "m0,1;o0"), Face::restore};
        Played x = rich();
        List<Integer> start = x.state();
        x.keep();
        for (int i = 0; i < acts.length; i++) {
            Due.at("promise 18, act " + i);
            int states = x.count(12);
            Due.due("an act that is done", acts[i].on(x) >= 0, true);
            Due.due("states", x.count(12), Math.min(states + 1, 4));
            boolean isRestore = i == acts.length - 1;
            Due.due("the state is another one", x.state().equals(start), isRestore);
            Due.due("undo()", x.undo(), 3);
            Due.due("the state is back", x.state(), start);
        }
        Due.at("promise 18, four acts");
        for (int from = 0; from + 4 <= 15; from++) {
            List<List<Integer>> states = new ArrayList<>();
            x = rich();
            for (int i = from; i < from + 4; i++) {
                states.add(x.state());
                acts[i].on(x);
            }
            for (int i = 3; i >= 0; i--) {
                if (x.count(12) == i + 1) {
                    x.undo();
                    Due.due("state " + i + " from " + from, x.state(), states.get(i));
                }
            }
        }
    }

    private static void keep() {
        Due.at("promise 19");
        Played x = new Played();
        Due.due("keep() of nothing", x.keep(), 0);
        x.addScene(0, 4);
        Due.due("restore()", x.restore(), 0);
        Due.due("restored", x.count(0), 0);
        x = rich();
        List<Integer> kept = x.told();
        Due.due("keep()", x.keep(), 5);
        Due.due("keep() changes nothing that is told", x.told(), kept);
        x.takeOut(0);
        Due.due("keep() again", x.keep(), 4);
        x.undo();
        Due.due("undo() leaves the snapshot", x.restore(), 4);
    }

    private static void restore() {
        Due.at("promise 20");
        Played x = rich();
        Due.refused(x, "restore() of nothing", Due.NONE, Face::restore);
        List<Integer> kept = x.state();
        x.keep();
        x.takeOut(0);
        x.run();
        x.patch(3, 2);
        x.set(1, 9);
        x.set(0, 0);
        x.dislike(4, true);
        x.addWitness(2, 0, 2);
        x.addScene(1, 1);
        x.tear(4, 0, 0);
        x.clearText();
        x.type('c');
        List<Integer> other = x.state();
        Due.due("restore()", x.restore(), 5);
        Due.due("restored", x.state(), kept);
        Due.due("the text", x.count(13), 1);
        Due.due("the history", x.count(12), 4);
        Due.due("undo()", x.undo(), 3);
        Due.due("undone", x.state(), other);
        Due.due("restore()", x.restore(), 5);
        Due.due("restore() of the same", x.restore(), 5);
        Due.due("the history", x.count(12), 4);
        Due.due("restored", x.state(), kept);
        Played y = new Played();
        y.keep();
        Due.due("restore()", y.restore(), 0);
        Due.due("an act", y.count(12), 1);
        y.undo();
        Due.due("undo() leaves the snapshot", y.restore(), 0);
    }

    /** Two films of the same size that differ in each number: none of the one may stay in the other. */
    private static void twoFilms() {
        Due.at("promises 18 and 20, two films");
        Played x = new Played();
        x.addScene(1, 5);
        x.run();
        x.run();
        x.addWitness(1, 1, 3);
        List<Integer> one = x.state();
        x.keep();
        for (int i = 3; i >= 0; i--) {
            Due.due("undo()", x.undo(), i);
        }
        x.addScene(2, 7);
        x.dislike(2, true);
        x.run();
        x.addWitness(0, 0, 2);
        List<Integer> other = x.state();
        Due.due("restore()", x.restore(), 1);
        Due.due("the one", x.state(), one);
        Due.due("undo()", x.undo(), 3);
        Due.due("the other", x.state(), other);
    }
}
