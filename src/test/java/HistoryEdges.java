import java.util.List;

/** The boundary cases that promises 18 to 20 name, and those of the history in the document's terms. */
final class HistoryEdges {
    private static final String FOUR_SCENES = "addScene(0,1) addScene(0,2) addScene(0,3) addScene(0,4) ";

    private HistoryEdges() {
    }

    static List<List<Edge>> edges() {
        return List.of(undo(), states(), recorded(), notRecorded(), parts(), keep(), restore());
    }

    private static List<Edge> undo() {
        return List.of(
            new Edge("18 NONE if the history is empty",
                "undo()=NONE",
                "addScene(0,1) undo()=0 undo()=NONE",
                "type(99) keep()=0 cut(0)=BAD undo()=NONE"),
            new Edge("18 Returns the number of states that are left",
                "addScene(0,1) undo()=0",
                FOUR_SCENES + "undo()=3 undo()=2 undo()=1 undo()=0 undo()=NONE count(0)=0"),
            new Edge("history: undo() removes and restores the latest one",
                FOUR_SCENES + "undo()=3 reel=0:0-0,1:0-1,2:0-2 undo()=2 reel=0:0-0,1:0-1 undo()=1 reel=0:0-0 "
                    + "undo()=0 reel=",
                "addScene(0,4) addScene(1,1) undo()=1 addScene(2,2)=1 undo()=1 reel=0:0-3 undo()=0 reel="));
    }

    private static List<Edge> states() {
        return List.of(
            new Edge("history: A history of at most 4 states is kept",
                FOUR_SCENES + "count(12)=4 addScene(0,5) count(12)=4 addScene(0,6) count(12)=4"),
            new Edge("history: when one more is recorded, the oldest one is dropped",
                FOUR_SCENES + "addScene(0,5) undo()=3 undo()=2 undo()=1 undo()=0 reel=0:0-0 undo()=NONE",
                FOUR_SCENES + "addScene(0,5) addScene(0,6) undo() undo() undo() undo()=0 reel=0:0-0,1:0-1 "
                    + "undo()=NONE",
                Edge.each(0, 11, "addScene(0,1)=@") + "undo()=3 undo()=2 undo()=1 undo()=0 count(0)=8 undo()=NONE",
                FOUR_SCENES + "undo()=3 undo()=2 set(0,1) set(0,2) set(0,4) count(12)=4 undo()=3 count(8)=2 "
                    + "undo()=2 count(8)=1 undo()=1 count(8)=3 undo()=0 reel=0:0-0 undo()=NONE",
                "set(0,1) set(0,2) set(0,3) undo()=2 undo()=1 undo()=0 set(0,4) set(0,5) set(0,6) set(0,7) "
                    + "set(0,8) undo()=3 count(8)=7 undo()=2 count(8)=6 undo()=1 count(8)=5 undo()=0 "
                    + "count(8)=4 undo()=NONE"));
    }

    /** Of each act an answer of 0, where it can answer one: 0 is no error. */
    private static List<Edge> recorded() {
        return List.of(
            new Edge("history: Each call .. described as an act, and returns no error and not NONE",
                "addScene(0,3)=0 count(12)=1 undo()=0 count(0)=0",
                "addScene(0,3) cut(1)=1 count(12)=2 undo()=1 reel=0:0-2",
                "addScene(0,3) cut(1) join(0)=3 count(12)=3 undo()=2 reel=0:0-0,0:1-2",
                "addScene(0,3) takeOut(0)=0 count(12)=2 undo()=1 reel=0:0-2 can=",
                "addScene(0,3) takeOut(0) putIn(0,0)=0 count(12)=3 undo()=2 reel= can=0:0-2",
                "addScene(0,3) cut(1) move(1,0)=0 count(12)=3 undo()=2 reel=0:0-0,0:1-2",
                "addScene(0,3) tear(0,0,0) tear(0,0,1) tear(0,0,2) tear(0,0,3)=0 count(12)=4 undo()=3 "
                    + "frame(0,0,1)=7",
                "addScene(0,3) tear(0,0,3) patch(0,0)=1 count(12)=3 undo()=2 frame(0,0,1)=8",
                "addScene(0,3) cut(1) run() splice(1)=1 count(12)=4 undo()=3 piece(1,4)=1",
                "dislike(4,true) dislike(4,false)=0 count(12)=2 undo()=1 count(7)=16",
                "set(0,0)=3 set(0,9)=0 count(12)=2 undo()=1 count(8)=0 set(1,9)=5 undo()=1 count(9)=5",
                "addScene(0,3) run()=0 count(12)=2 undo()=1 count(5)=0 frame(0,0,2)=0",
                "addScene(0,3) run() addWitness(0,0,1)=0 count(12)=3 undo()=2 count(6)=0",
                "addScene(0,3) text(c1;c2) edit()=2 count(12)=2 undo()=1 reel=0:0-2",
                "keep() addScene(0,3) restore()=0 count(12)=2 undo()=1 reel=0:0-2"));
    }

    private static List<Edge> notRecorded() {
        return List.of(
            new Edge("history: records the state that was before it (the calls that are no acts record none)",
                "addScene(0,3) type(99)=1 clearText()=1 keep()=1 count(12)=1",
                "addScene(0,3) cut(1) run() addWitness(0,0,1)=0 count(12)=4 undo()=3 scene(0,0)=0 piece(0,0)=0 "
                    + "frameAt(0)=0 frame(0,0,0)=0 show(0,0)=3 seen(0,0)=0 next(0)=3 count(12)=3 takeOut(0) "
                    + "canned(0,0)=0 count(12)=4",
                "addScene(0,3) addScene(0,3) undo()=1 count(12)=1 undo()=0 undo()=NONE"));
    }

    private static List<Edge> parts() {
        return List.of(
            new Edge("history: A state is everything but the text",
                "addScene(0,3) type(99)=1 undo()=0 count(13)=1 type(48)=2 keep()=0 type(59)=3 restore()=0 "
                    + "count(13)=3 clearText()=3 undo()=0 count(13)=0"),
            new Edge("history: A state is everything but .. the history",
                "addScene(0,3) keep()=1 set(0,1) set(0,2) restore()=1 count(12)=4 undo()=3 count(8)=2 "
                    + "undo()=2 count(8)=1 undo()=1 count(8)=3 undo()=0 count(0)=0"),
            new Edge("history: A state is everything but .. the snapshot",
                "addScene(0,3) keep()=1 undo()=0 restore()=1 reel=0:0-2",
                "keep()=0 addScene(0,3) keep()=1 restore()=1 undo()=1 undo()=0 restore()=1"),
            new Edge("history: A state is everything (undo)",
                "addScene(1,5) addScene(2,3) cut(2) tear(0,1,0) run() addWitness(0,0,4) dislike(2,true) "
                    + "set(0,1) set(1,1) undo()=3 undo()=2 undo()=1 undo()=0 count(*)="
                    + "2,3,0,8,0,1,0,0,3,5,1,0,0,0 reel=0:0-1,0:2-4/1,1:0-2/1",
                "addScene(1,5) cut(2) tear(0,1,0) takeOut(0) run() patch(0,1) count(12)=4 undo()=3 undo()=2 "
                    + "undo()=1 reel=0:0-1,0:2-4 frame(0,1,*)=1,1,0,1 frame(0,2,2)=0 count(5)=0 count(2)=0"),
            new Edge("history: A state is everything (two of them, as large as one another)",
                "addScene(1,5) keep() undo() addScene(2,7) restore()=1 scene(0,*)=1,5,5,1,0,1 undo()=1 "
                    + "scene(0,*)=2,7,7,1,0,1",
                "addScene(1,5) addScene(1,1) run() keep() undo() set(0,0) dislike(1,true) set(0,1) run() "
                    + "show(0,*)=3,1,0,5,14,10,NONE,1 restore()=2 show(0,*)=6,6,0,0,24,0,NONE,0 seen(0,0)=0 "
                    + "seen(0,5)=100 undo()=3 show(0,*)=3,1,0,5,14,10,NONE,1 seen(0,0)=NONE seen(0,2)=100",
                "addScene(1,5) run() run() addWitness(1,1,3) keep() undo() addWitness(0,2,5) restore()=1 "
                    + "witness(0,*)=1,1,3,2,0,1 undo()=3 witness(0,*)=0,2,5,3,0,1",
                "addScene(1,5) tear(0,0,1) run() keep() undo() undo() run() tear(0,1,3) restore()=1 "
                    + "frame(0,0,1)=2 frame(0,1,1)=0 undo()=3 frame(0,0,1)=0 frame(0,1,1)=8",
                "addScene(1,5) cut(2) keep() undo() cut(3) run() restore()=2 reel=0:0-1,0:2-4 undo()=3 "
                    + "reel=0:0-2,0:3-4/1",
                "addScene(1,5) cut(2) takeOut(0) keep() undo() takeOut(1) restore()=1 can=0:0-1 reel=0:2-4 "
                    + "undo()=3 can=0:2-4 reel=0:0-1"),
            new Edge("history: A state is everything (restore)",
                "addScene(1,5) addScene(2,3) cut(2) tear(0,1,0) run() keep()=3 addWitness(0,0,4) dislike(2,true) "
                    + "set(0,1) set(1,1) run() takeOut(0) patch(0,1) splice(1) addScene(0,9) restore()=3 "
                    + "count(*)=2,3,0,8,0,1,0,0,3,5,1,0,4,0 reel=0:0-1,0:2-4/1,1:0-2/1 frame(0,1,2)=1"));
    }

    private static List<Edge> keep() {
        return List.of(
            new Edge("19 Returns the number of pieces on the reel",
                "keep()=0",
                FilmEdges.TWENTY + "keep()=20",
                "addScene(0,2) takeOut(0) keep()=0"),
            new Edge("19 in place of the one that was",
                "keep()=0 addScene(0,3) keep()=1 cut(1) restore()=1 undo()=2 undo()=1 undo()=0 restore()=1",
                "addScene(0,3) keep()=1 undo()=0 keep()=0 addScene(1,1) restore()=0"),
            new Edge("19 Takes a snapshot of the state",
                "addScene(0,3) keep()=1 cut(1) restore()=1 reel=0:0-2 cut(2) reel=0:0-1,0:2-2 restore()=1 "
                    + "reel=0:0-2 tear(0,0,0) run() restore()=1 scene(0,4)=0 count(5)=0"),
            new Edge("19 (keep is no act)", "addScene(0,3) keep()=1 count(12)=1 undo()=0 count(0)=0"));
    }

    private static List<Edge> restore() {
        return List.of(
            new Edge("20 NONE if there is no snapshot",
                "restore()=NONE",
                "addScene(0,3) restore()=NONE reel=0:0-2"),
            new Edge("history: There is one snapshot, empty at first.",
                "addScene(0,3) cut(1) restore()=NONE keep()=2 restore()=2"),
            new Edge("20 Restores the state of the snapshot, which stays.",
                "addScene(0,3) keep()=1 cut(1) restore()=1 cut(2) restore()=1 restore()=1 undo()=3 undo()=2 "
                    + "restore()=1 reel=0:0-2"),
            new Edge("20 This is an act.",
                "addScene(0,3) keep()=1 restore()=1 count(12)=2 undo()=1 reel=0:0-2",
                "keep()=0 restore()=0 count(12)=1 undo()=0 undo()=NONE restore()=0",
                "keep()=0 " + FOUR_SCENES + "restore()=0 count(12)=4 undo()=3 count(0)=4 undo()=2 count(0)=3"),
            new Edge("20 Returns the number of pieces on the reel then",
                "keep()=0 addScene(0,3) restore()=0",
                FilmEdges.TWENTY + "keep()=20 takeOut(0)=19 takeOut(0)=18 restore()=20 can="));
    }
}
