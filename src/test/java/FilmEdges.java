import java.util.List;

/** The boundary cases that promises 1 to 10 name, and those of the film in the document's terms. */
final class FilmEdges {
    static final String TWELVE = Edge.each(0, 11, "addScene(0,1)=@");
    /** Frames 0 to 18 alone, and a last piece of frames 19 to 39. */
    static final String TWENTY = "addScene(0,40) " + Edge.each(1, 19, "cut(@)=@");
    /** 20 pieces of a frame in the can, frames 20 to 39 in one piece on the reel. */
    static final String FULL_CAN = "addScene(0,40) " + Edge.each(1, 20, "cut(1)=1 takeOut(0)=1");
    /** 20 pieces on the reel, and one, of frame 0, in the can. */
    static final String FULL_REEL = TWENTY + "takeOut(0)=19 cut(25)=19 ";
    static final String FIVE = "addScene(0,1) addScene(0,2) addScene(0,3) addScene(0,4) addScene(0,5) ";
    private static final String SIX_RUN = Edge.each(0, 5, "addScene(0,1)=@") + "run()=0 ";
    private static final String TORN = "addScene(0,3) addScene(1,40) addScene(2,1) tear(0,1,2)=3 ";

    private FilmEdges() {
    }

    static List<List<Edge>> edges() {
        return List.of(newObject(), addScene(), addedFrames(), cut(), join(), takeOut(), putIn(),
                putInRoom(), move(), movedSplices(), tear(), patch(), splice());
    }

    private static List<Edge> newObject() {
        return List.of(
            new Edge("1 Creates an empty reel.",
                "count(*)=0,0,0,0,0,0,0,0,3,5,0,0,0,0",
                "scene(0,0)=UNKNOWN piece(0,0)=UNKNOWN canned(0,0)=UNKNOWN frameAt(0)=NONE "
                    + "frame(0,0,0)=UNKNOWN show(0,0)=UNKNOWN seen(0,0)=UNKNOWN witness(0,0)=UNKNOWN "
                    + "saw(0,0)=UNKNOWN differ(0,0)=UNKNOWN next(0)=NOT reel= can=",
                "cut(0)=BAD join(0)=UNKNOWN takeOut(0)=UNKNOWN putIn(0,0)=UNKNOWN move(0,0)=UNKNOWN "
                    + "tear(0,0,0)=UNKNOWN patch(0,0)=UNKNOWN splice(0)=UNKNOWN run()=NOT "
                    + "addWitness(0,0,1)=UNKNOWN edit()=-100 undo()=NONE restore()=NONE"),
            new Edge("film: An object is used for at most 512 calls",
                Edge.each(1, 254, "dislike(0,true)=1 dislike(0,false)=0")
                    + "addScene(0,3)=0 run()=0 undo()=3 run()=0"),
            new Edge("film: numbered from 0",
                "addScene(3,1)=0 scene(0,0)=3 scene(-1,0)=UNKNOWN piece(0,0)=0 piece(-1,0)=UNKNOWN "
                    + "frameAt(0)=0 frame(0,0,0)=0 takeOut(0)=0 canned(0,0)=0 canned(-1,0)=UNKNOWN"));
    }

    private static List<Edge> addScene() {
        return List.of(
            new Edge("2 `kind`: 0 to 5",
                "addScene(0,1)=0 scene(0,0)=0 addScene(5,1)=1 scene(1,0)=5",
                "addScene(-1,1)=BAD addScene(6,1)=BAD addScene(MIN,1)=BAD addScene(MAX,1)=BAD"),
            new Edge("2 `frames`: 1 to 40",
                "addScene(0,1)=0 scene(0,1)=1 addScene(0,40)=1 scene(1,1)=40 reel=0:0-0,1:0-39 count(3)=41",
                "addScene(0,0)=BAD addScene(0,41)=BAD addScene(0,-1)=BAD addScene(0,MIN)=BAD "
                    + "addScene(0,MAX)=BAD"),
            new Edge("2 all its frames are a new last piece of the reel",
                "addScene(0,5)=0 reel=0:0-4 addScene(1,1)=1 reel=0:0-4,1:0-0 can=",
                "addScene(0,2) takeOut(0)=0 addScene(1,3)=1 reel=1:0-2 can=0:0-1",
                "addScene(0,4) addScene(1,1) move(1,0) cut(3)=2 addScene(2,2)=2 "
                    + "reel=1:0-0,0:0-1,0:2-3,2:0-1"),
            new Edge("2 Returns its number",
                TWELVE + "count(0)=12",
                "addScene(0,2)=0 cut(1) addScene(0,1)=1 takeOut(0) takeOut(0) addScene(0,1)=2"),
            new Edge("2 BAD_VALUE; FULL",
                TWELVE + "addScene(6,1)=BAD addScene(-1,1)=BAD addScene(0,0)=BAD addScene(0,41)=BAD",
                TWENTY + "addScene(6,1)=BAD addScene(-1,1)=BAD addScene(0,0)=BAD addScene(0,41)=BAD"),
            new Edge("2 FULL if there are 12 scenes",
                TWELVE + "addScene(0,1)=FULL addScene(5,40)=FULL",
                TWELVE + "undo()=3 addScene(3,2)=11 addScene(3,2)=FULL",
                TWELVE + Edge.each(0, 11, "takeOut(0)") + "count(1)=0 addScene(0,1)=FULL"),
            new Edge("2 FULL if there are .. 20 pieces on the reel",
                TWENTY + "count(1)=20 addScene(0,1)=FULL",
                TWENTY + "takeOut(3)=19 addScene(5,2)=1 piece(19,0)=1 count(1)=20 addScene(0,1)=FULL",
                FULL_CAN + "addScene(0,1)=1 count(1)=2"),
            new Edge("2 This is an act.",
                "addScene(0,2)=0 count(12)=1 addScene(0,2)=1 count(12)=2 undo()=1 reel=0:0-1 "
                    + "undo()=0 reel= count(0)=0"));
    }

    private static List<Edge> addedFrames() {
        return List.of(
            new Edge("film: four holes .. each good (at first) .. passes (at first 0)",
                "addScene(0,2) frame(0,1,*)=1,0,0,1 scene(0,4)=0",
                "addScene(0,2) run() tear(0,1,3) undo() undo() undo()=0 addScene(1,2)=0 "
                    + "frame(0,0,*)=0,0,0,1 frame(0,1,*)=1,0,0,1",
                "keep() addScene(0,2) tear(0,1,3) run() restore()=0 addScene(1,2)=0 frame(0,1,*)=1,0,0,1"),
            new Edge("film: A splice has a number of passes: it is 0 when it is made.",
                "addScene(0,1) addScene(0,1) run() addScene(0,1)=2 reel=0:0-0,1:0-0/1,2:0-0",
                "addScene(0,1) addScene(0,1) addScene(0,1) run() takeOut(2) addScene(0,1)=3 "
                    + "reel=0:0-0,1:0-0/1,3:0-0"),
            new Edge("film: Each frame of each scene is in just one piece.",
                "addScene(0,6) addScene(1,3) cut(2) cut(4) takeOut(1)=3 move(0,2) count(3)=7 count(4)=2 "
                    + "reel=0:4-5,1:0-2,0:0-1 can=0:2-3 putIn(0,1)=0 count(3)=9 count(4)=0 "
                    + "frame(0,3,0)=3 frame(0,1,0)=8",
                FULL_CAN + "cut(1) count(3)=20 count(4)=20 putIn(7,1)=19 count(3)=21 count(4)=19"));
    }

    private static List<Edge> cut() {
        return List.of(
            new Edge("3 BAD_VALUE if there is no such position",
                "cut(0)=BAD",
                "addScene(0,5) cut(-1)=BAD cut(5)=BAD cut(MIN)=BAD cut(MAX)=BAD cut(4)=1",
                "addScene(0,3) addScene(1,4) takeOut(0) cut(4)=BAD cut(6)=BAD cut(3)=1 reel=1:0-2,1:3-3",
                "addScene(0,3) takeOut(0) cut(0)=BAD cut(1)=BAD"),
            new Edge("3 the frame there is the first one of a new piece",
                "addScene(0,5) cut(1)=1 reel=0:0-0,0:1-4",
                "addScene(0,5) cut(4)=1 reel=0:0-3,0:4-4",
                "addScene(0,2) addScene(1,3) cut(3)=2 reel=0:0-1,1:0-0,1:1-2 frameAt(3)=101",
                "addScene(0,6) cut(3)=1 cut(4)=2 reel=0:0-2,0:3-3,0:4-5"),
            new Edge("3 Returns the number of the new piece",
                "addScene(0,2) addScene(0,2) addScene(0,2) cut(1)=1 cut(5)=4 cut(3)=3",
                TWENTY + "count(1)=20"),
            new Edge("3 FULL if no piece begins there and there are 20 on the reel",
                TWENTY + "cut(20)=FULL cut(39)=FULL",
                "addScene(0,40) " + Edge.each(1, 18, "cut(@)=@") + "cut(39)=19 cut(38)=FULL",
                TWENTY + "join(0)=2 cut(39)=19 cut(38)=FULL"),
            new Edge("3 NONE if a piece begins there",
                "addScene(0,5) addScene(1,1) cut(0)=NONE cut(5)=NONE",
                "addScene(0,5) cut(2)=1 cut(2)=NONE",
                TWENTY + "cut(0)=NONE cut(18)=NONE cut(19)=NONE"),
            new Edge("3 BAD_VALUE ..; FULL", TWENTY + "cut(40)=BAD cut(-1)=BAD"),
            new Edge("film: by a cut there is a new one at the cut .. all others stay as they are",
                "addScene(0,4) addScene(1,4) run() run() cut(6)=2 reel=0:0-3,1:0-1/2,1:2-3 "
                    + "cut(2)=1 reel=0:0-1,0:2-3,1:0-1/2,1:2-3",
                "addScene(0,3) addScene(1,3) addScene(2,3) run() cut(4)=2 reel=0:0-2,1:0-0/1,1:1-2,2:0-2/1"));
    }

    private static List<Edge> join() {
        return List.of(
            new Edge("4 UNKNOWN",
                "join(0)=UNKNOWN",
                "addScene(0,3) cut(1) join(-1)=UNKNOWN join(2)=UNKNOWN join(MIN)=UNKNOWN join(MAX)=UNKNOWN",
                "addScene(0,3) cut(1) takeOut(0) takeOut(0) join(0)=UNKNOWN"),
            new Edge("4 NOT_POSSIBLE if there is none behind it",
                "addScene(0,2) join(0)=NOT cut(1) join(1)=NOT join(0)=2",
                TWENTY + "join(19)=NOT",
                "addScene(0,3) cut(1) takeOut(1)=1 join(0)=NOT"),
            new Edge("4 or that does not go on with the next frame",
                "addScene(0,3) cut(1) cut(2) takeOut(1) reel=0:0-0,0:2-2 join(0)=NOT",
                "addScene(0,3) cut(1) cut(2) move(0,1) reel=0:1-1,0:0-0,0:2-2 join(0)=NOT join(1)=NOT",
                "addScene(0,4) cut(2) move(0,1) reel=0:2-3,0:0-1 join(0)=NOT"),
            new Edge("4 of the same scene",
                "addScene(0,2) addScene(0,2) join(0)=NOT",
                "addScene(0,40) addScene(0,40) join(0)=NOT",
                "addScene(0,2) addScene(0,4) cut(4) move(1,2) reel=0:0-1,1:2-3,1:0-1 join(0)=NOT join(1)=NOT"),
            new Edge("4 Returns how many frames it has then",
                "addScene(0,2) cut(1) join(0)=2 reel=0:0-1",
                "addScene(0,40) cut(1) cut(39) join(1)=39 join(0)=40 reel=0:0-39",
                TWENTY + Edge.each(2, 19, "join(0)=@") + "join(0)=40 join(0)=NOT"),
            new Edge("film: by joining one is gone, and all others stay as they are",
                "addScene(0,4) cut(2) cut(3) addScene(1,1) run() reel=0:0-1,0:2-2/1,0:3-3/1,1:0-0/1 "
                    + "join(1)=2 reel=0:0-1,0:2-3/1,1:0-0/1 join(0)=4 reel=0:0-3,1:0-0/1"));
    }

    private static List<Edge> takeOut() {
        return List.of(
            new Edge("5 UNKNOWN; FULL",
                FULL_CAN + "takeOut(1)=UNKNOWN takeOut(-1)=UNKNOWN takeOut(MIN)=UNKNOWN takeOut(MAX)=UNKNOWN"),
            new Edge("5 UNKNOWN",
                "takeOut(0)=UNKNOWN",
                FIVE + "takeOut(-1)=UNKNOWN takeOut(5)=UNKNOWN takeOut(MIN)=UNKNOWN takeOut(MAX)=UNKNOWN",
                "addScene(0,1) takeOut(0)=0 takeOut(0)=UNKNOWN"),
            new Edge("5 FULL if there are 20 in the can",
                FULL_CAN + "count(2)=20 takeOut(0)=FULL",
                FULL_CAN + "putIn(0,1)=19 takeOut(0)=1 count(2)=20 takeOut(0)=FULL"),
            new Edge("5 it is the last one in the can then",
                FIVE + "takeOut(4)=4 can=4:0-4 takeOut(0)=3 can=4:0-4,0:0-0 takeOut(1)=2 "
                    + "can=4:0-4,0:0-0,2:0-2 reel=1:0-1,3:0-3",
                FULL_CAN + "canned(0,1)=0 canned(19,1)=19"),
            new Edge("5 Returns how many pieces are left on the reel",
                FIVE + "takeOut(4)=4 takeOut(0)=3 takeOut(1)=2 takeOut(0)=1 takeOut(0)=0 reel=",
                TWENTY + "takeOut(19)=19"),
            new Edge("film: anew wherever the first frame of a piece comes to stand behind another (takeOut)",
                SIX_RUN + "takeOut(2)=5 reel=0:0-0,1:0-0/1,3:0-0,4:0-0/1,5:0-0/1",
                SIX_RUN + "takeOut(5)=5 reel=0:0-0,1:0-0/1,2:0-0/1,3:0-0/1,4:0-0/1"),
            new Edge("film: a piece that comes to be the first one has a splice with 0 passes (takeOut)",
                SIX_RUN + "takeOut(0)=5 reel=1:0-0,2:0-0/1,3:0-0/1,4:0-0/1,5:0-0/1 piece(0,4)=0"));
    }

    private static List<Edge> putIn() {
        String outAndRun = Edge.each(0, 5, "addScene(0,1)=@") + "takeOut(5)=5 run()=0 ";
        return List.of(
            new Edge("6 `piece`: a piece of the can",
                "addScene(0,2) putIn(0,0)=UNKNOWN",
                FIVE + "takeOut(1) takeOut(1) putIn(-1,0)=UNKNOWN putIn(2,0)=UNKNOWN putIn(MIN,0)=UNKNOWN "
                    + "putIn(MAX,0)=UNKNOWN putIn(1,0)=1 putIn(1,0)=UNKNOWN"),
            new Edge("6 `at`: 0 to the number of pieces on the reel",
                FIVE + "takeOut(2) putIn(0,-1)=BAD putIn(0,5)=BAD putIn(0,MIN)=BAD putIn(0,MAX)=BAD",
                FIVE + "takeOut(2) putIn(0,0)=0 reel=2:0-2,0:0-0,1:0-1,3:0-3,4:0-4",
                FIVE + "takeOut(2) putIn(0,4)=0 reel=0:0-0,1:0-1,3:0-3,4:0-4,2:0-2",
                "addScene(0,2) takeOut(0) putIn(0,1)=BAD putIn(0,-1)=BAD putIn(0,0)=0 reel=0:0-1"),
            new Edge("6 the number that it has then",
                FIVE + "takeOut(4) putIn(0,2)=0 reel=0:0-0,1:0-1,4:0-4,2:0-2,3:0-3"),
            new Edge("6 Returns how many pieces are left in the can",
                FIVE + "takeOut(4) takeOut(3) takeOut(2) putIn(1,0)=2 can=4:0-4,2:0-2 putIn(1,0)=1 "
                    + "can=4:0-4 putIn(0,0)=0 can= reel=4:0-4,2:0-2,3:0-3,0:0-0,1:0-1",
                FULL_CAN + "putIn(19,0)=19 canned(18,1)=18 canned(19,1)=UNKNOWN"),
            new Edge("film: anew wherever the first frame of a piece comes to stand behind another (putIn)",
                outAndRun + "putIn(0,2)=0 reel=0:0-0,1:0-0/1,5:0-0,2:0-0,3:0-0/1,4:0-0/1",
                outAndRun + "putIn(0,5)=0 reel=0:0-0,1:0-0/1,2:0-0/1,3:0-0/1,4:0-0/1,5:0-0",
                outAndRun + "putIn(0,0)=0 reel=5:0-0,0:0-0,1:0-0/1,2:0-0/1,3:0-0/1,4:0-0/1",
                SIX_RUN + "takeOut(2)=5 putIn(0,2)=0 reel=0:0-0,1:0-0/1,2:0-0,3:0-0,4:0-0/1,5:0-0/1",
                SIX_RUN + "takeOut(5)=5 putIn(0,5)=0 reel=0:0-0,1:0-0/1,2:0-0/1,3:0-0/1,4:0-0/1,5:0-0"));
    }

    private static List<Edge> putInRoom() {
        return List.of(
            new Edge("6 FULL if there are 20 on the reel",
                FULL_REEL + "putIn(0,0)=FULL putIn(0,20)=FULL",
                FULL_REEL + "join(3)=2 putIn(0,19)=0 count(1)=20 piece(19,1)=0"),
            new Edge("6 UNKNOWN; BAD_VALUE", "putIn(0,9)=UNKNOWN addScene(0,1) putIn(0,-1)=UNKNOWN"),
            new Edge("6 UNKNOWN; .. FULL", FULL_REEL + "putIn(1,0)=UNKNOWN putIn(-1,99)=UNKNOWN"),
            new Edge("6 BAD_VALUE; FULL", FULL_REEL + "putIn(0,21)=BAD putIn(0,-1)=BAD"),
            new Edge("film: The reel is a row of at most 20 pieces .. the can is one of at most 20.",
                FULL_CAN + Edge.each(1, 19, "cut(@)=@") + "count(1)=20 count(2)=20 takeOut(0)=FULL "
                    + "putIn(0,0)=FULL cut(0)=NONE addScene(0,1)=FULL join(0)=2 putIn(19,0)=19 "
                    + "putIn(0,0)=FULL takeOut(3)=19"));
    }

    private static List<Edge> move() {
        return List.of(
            new Edge("7 UNKNOWN (piece ..)",
                FIVE + "move(-1,0)=UNKNOWN move(5,0)=UNKNOWN move(MIN,0)=UNKNOWN move(MAX,0)=UNKNOWN",
                "addScene(0,1) takeOut(0) move(0,1)=UNKNOWN"),
            new Edge("7 UNKNOWN (.. or to)",
                FIVE + "move(0,-1)=UNKNOWN move(0,5)=UNKNOWN move(0,MIN)=UNKNOWN move(0,MAX)=UNKNOWN",
                "addScene(0,1) move(0,1)=UNKNOWN"),
            new Edge("7 UNKNOWN ..; NONE if both are the same",
                "move(0,0)=UNKNOWN",
                FIVE + "move(5,5)=UNKNOWN move(-1,-1)=UNKNOWN move(MIN,MIN)=UNKNOWN move(MAX,MAX)=UNKNOWN"),
            new Edge("7 NONE if both are the same",
                "addScene(0,1) move(0,0)=NONE",
                FIVE + "run() move(0,0)=NONE move(2,2)=NONE move(4,4)=NONE"),
            new Edge("7 `to`: a piece: the number that it has then",
                FIVE + "move(0,4)=14 reel=1:0-1,2:0-2,3:0-3,4:0-4,0:0-0",
                FIVE + "move(4,0)=0 reel=4:0-4,0:0-0,1:0-1,2:0-2,3:0-3",
                FIVE + "move(1,2)=4 reel=0:0-0,2:0-2,1:0-1,3:0-3,4:0-4",
                FIVE + "move(2,1)=1 reel=0:0-0,2:0-2,1:0-1,3:0-3,4:0-4"),
            new Edge("7 Returns the position of its first frame then",
                FIVE + "move(4,3)=6 piece(3,3)=6 move(0,1)=2 piece(1,3)=2 move(1,0)=0 piece(0,3)=0",
                TWENTY + "move(0,19)=39 frameAt(39)=0",
                TWENTY + "move(19,0)=0 frameAt(0)=19 frameAt(21)=0"));
    }

    private static List<Edge> movedSplices() {
        return List.of(
            new Edge("film: anew wherever the first frame of a piece comes to stand behind another (move)",
                SIX_RUN + "move(1,3)=3 reel=0:0-0,2:0-0,3:0-0/1,1:0-0,4:0-0,5:0-0/1",
                SIX_RUN + "move(4,2)=2 reel=0:0-0,1:0-0/1,4:0-0,2:0-0,3:0-0/1,5:0-0",
                SIX_RUN + "move(2,3)=3 reel=0:0-0,1:0-0/1,3:0-0,2:0-0,4:0-0,5:0-0/1",
                SIX_RUN + "move(3,2)=2 reel=0:0-0,1:0-0/1,3:0-0,2:0-0,4:0-0,5:0-0/1",
                SIX_RUN + "move(0,5)=5 reel=1:0-0,2:0-0/1,3:0-0/1,4:0-0/1,5:0-0/1,0:0-0",
                SIX_RUN + "move(5,1)=1 reel=0:0-0,5:0-0,1:0-0,2:0-0/1,3:0-0/1,4:0-0/1"),
            new Edge("film: a piece that comes to be the first one has a splice with 0 passes (move)",
                SIX_RUN + "move(1,0)=0 reel=1:0-0,0:0-0,2:0-0,3:0-0/1,4:0-0/1,5:0-0/1",
                SIX_RUN + "move(0,1)=1 piece(0,4)=0 reel=1:0-0,0:0-0,2:0-0,3:0-0/1,4:0-0/1,5:0-0/1",
                SIX_RUN + "move(5,0)=0 reel=5:0-0,0:0-0,1:0-0/1,2:0-0/1,3:0-0/1,4:0-0/1"));
    }

    private static List<Edge> tear() {
        return List.of(
            new Edge("8 `scene`: a scene",
                "tear(0,0,0)=UNKNOWN",
                TORN + "tear(-1,0,0)=UNKNOWN tear(3,0,0)=UNKNOWN tear(MIN,0,0)=UNKNOWN tear(MAX,0,0)=UNKNOWN "
                    + "tear(536870912,0,0)=UNKNOWN tear(2,0,0)=3"),
            new Edge("8 `frame`: a frame of it",
                TORN + "tear(0,-1,0)=UNKNOWN tear(0,3,0)=UNKNOWN tear(0,40,0)=UNKNOWN tear(1,-1,0)=UNKNOWN "
                    + "tear(1,40,0)=UNKNOWN tear(0,MIN,0)=UNKNOWN tear(0,MAX,0)=UNKNOWN tear(1,39,0)=3 "
                    + "tear(0,2,0)=3 frame(0,2,1)=1 frame(1,39,1)=1 frame(2,0,1)=0"),
            new Edge("8 `hole`: 0 to 3",
                TORN + "tear(0,0,-1)=BAD tear(0,0,4)=BAD tear(0,0,32)=BAD tear(0,0,MIN)=BAD tear(0,0,MAX)=BAD "
                    + "tear(0,1,4)=BAD",
                TORN + "tear(0,0,0)=3 frame(0,0,1)=1 tear(0,0,3)=2 frame(0,0,1)=9"),
            new Edge("8 Returns how many holes of the frame are good then",
                TORN + "tear(0,1,0)=2 tear(0,1,3)=1 tear(0,1,1)=0 frame(0,1,1)=15 frame(0,0,1)=0 frame(0,2,1)=0",
                TORN + "takeOut(0) tear(0,1,0)=2 frame(0,1,1)=5"),
            new Edge("8 UNKNOWN (scene or frame); BAD_VALUE", TORN + "tear(3,0,4)=UNKNOWN tear(0,3,-1)=UNKNOWN"),
            new Edge("8 NONE if it is torn already",
                TORN + "tear(0,1,2)=NONE tear(0,1,1)=2 tear(0,1,1)=NONE tear(0,1,2)=NONE",
                TORN + "tear(0,1,0)=2 tear(0,1,1)=1 tear(0,1,3)=0 tear(0,1,0)=NONE tear(0,1,3)=NONE",
                TORN + "run() run() run() frame(0,1,1)=5 tear(0,1,0)=NONE tear(0,1,1)=1"));
    }

    private static List<Edge> patch() {
        return List.of(
            new Edge("9 UNKNOWN (scene ..)",
                "patch(0,0)=UNKNOWN",
                TORN + "patch(-1,1)=UNKNOWN patch(3,1)=UNKNOWN patch(MIN,1)=UNKNOWN patch(MAX,1)=UNKNOWN "
                    + "patch(536870912,1)=UNKNOWN"),
            new Edge("9 UNKNOWN (.. or frame)",
                TORN + "patch(0,-1)=UNKNOWN patch(0,3)=UNKNOWN patch(1,40)=UNKNOWN patch(1,-39)=UNKNOWN "
                    + "patch(0,MIN)=UNKNOWN patch(0,MAX)=UNKNOWN",
                TORN + "tear(1,39,1) tear(2,0,1) patch(1,40)=UNKNOWN patch(2,-1)=UNKNOWN patch(1,39)=1 patch(2,0)=1"),
            new Edge("9 NONE if none was",
                TORN + "patch(0,0)=NONE patch(0,2)=NONE patch(0,1)=1 patch(0,1)=NONE"),
            new Edge("9 Returns how many were torn",
                TORN + "patch(0,1)=1",
                TORN + "tear(0,1,3) patch(0,1)=2",
                TORN + "tear(0,1,3) tear(0,1,0) patch(0,1)=3",
                TORN + "tear(0,1,3) tear(0,1,0) tear(0,1,1)=0 patch(0,1)=4"),
            new Edge("9 all its holes are good then",
                TORN + "tear(0,1,3) tear(0,2,0) run() patch(0,1)=2 frame(0,1,*)=1,0,1,1 frame(0,2,1)=1",
                TORN + "takeOut(0) patch(0,1)=1 frame(0,1,1)=0 scene(0,4)=0"));
    }

    private static List<Edge> splice() {
        return List.of(
            new Edge("10 UNKNOWN",
                "splice(0)=UNKNOWN",
                SIX_RUN + "splice(-1)=UNKNOWN splice(6)=UNKNOWN splice(MIN)=UNKNOWN splice(MAX)=UNKNOWN",
                SIX_RUN + "takeOut(5) splice(5)=UNKNOWN"),
            new Edge("10 NONE if they are 0",
                "addScene(0,1) addScene(0,1) splice(0)=NONE splice(1)=NONE",
                SIX_RUN + "splice(0)=NONE splice(1)=1 splice(1)=NONE cut(0)=NONE",
                SIX_RUN + "takeOut(2) splice(2)=NONE splice(3)=1"),
            new Edge("10 Returns the passes that it had",
                SIX_RUN + "splice(5)=1",
                SIX_RUN + "run() run() splice(1)=3 splice(2)=3",
                SIX_RUN + "set(1,1) run() run() splice(2)=1 splice(1)=3"),
            new Edge("10 its passes are 0 then",
                SIX_RUN + "splice(2)=1 reel=0:0-0,1:0-0/1,2:0-0,3:0-0/1,4:0-0/1,5:0-0/1 run() piece(2,4)=1"));
    }
}
