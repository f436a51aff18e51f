import java.util.List;

/** The boundary cases that promises 11 to 14 name, and those of the shows in the document's terms. */
final class ShowsEdges {
    static final String TEN_SHOWS = "addScene(0,3) " + Edge.each(0, 9, "run()=@");
    private static final String TWO = "addScene(0,1) addScene(0,1) ";
    private static final String THREE = "addScene(0,2) addScene(1,2) addScene(2,2) ";
    /** Frames 0 to 4 of scene 0 have 0 to 4 torn holes. */
    private static final String WORSE = "addScene(2,5) tear(0,1,3) tear(0,2,0) tear(0,2,2) tear(0,3,0) "
        + "tear(0,3,1) tear(0,3,3) tear(0,4,0) tear(0,4,1) tear(0,4,2) tear(0,4,3)=0 ";
    private static final String ONE_SHOW = "addScene(0,6) run() ";
    private static final String EIGHT = ONE_SHOW + Edge.each(0, 7, "addWitness(0,0,6)=@");

    private ShowsEdges() {
    }

    static List<List<Edge>> edges() {
        return List.of(dislike(), set(), run(), splices(), energy(), winding(), showing(), counting(),
                wearing(), addWitness(), roomForWitnesses());
    }

    private static List<Edge> dislike() {
        return List.of(
            new Edge("shows: dislikes some kinds (none at first)",
                Edge.each(0, 5, "dislike(@,false)=NONE") + "count(7)=0"),
            new Edge("11 `kind`: 0 to 5",
                "dislike(-1,true)=BAD dislike(6,true)=BAD dislike(32,true)=BAD dislike(MIN,true)=BAD "
                    + "dislike(MAX,true)=BAD",
                "dislike(0,true)=1 dislike(5,true)=2 count(7)=33"),
            new Edge("11 BAD_VALUE; NONE",
                "dislike(-1,false)=BAD dislike(6,false)=BAD dislike(MIN,false)=BAD dislike(MAX,false)=BAD",
                "dislike(0,true)=1 dislike(32,true)=BAD"),
            new Edge("11 NONE if it is so already",
                "dislike(3,false)=NONE dislike(3,true)=1 dislike(3,true)=NONE dislike(3,false)=0 "
                    + "dislike(3,false)=NONE count(7)=0"),
            new Edge("11 Returns the number of kinds that they dislike then",
                "dislike(3,true)=1 dislike(0,true)=2 dislike(5,true)=3 dislike(1,true)=4 dislike(4,true)=5 "
                    + "dislike(2,true)=6 count(7)=63 dislike(5,false)=5 dislike(0,false)=4 dislike(1,false)=3 "
                    + "dislike(2,false)=2 dislike(3,false)=1 count(7)=16 dislike(4,false)=0 count(7)=0"));
    }

    private static List<Edge> set() {
        return List.of(
            new Edge("shows: an energy (.. at first 3)", "set(0,3)=NONE count(8)=3 set(0,4)=3"),
            new Edge("shows: the limit of splices (.. at first 5)", "set(1,5)=NONE count(9)=5 set(1,4)=5"),
            new Edge("12 `what`: 0 for the energy .., 1 for the limit of splices",
                "set(-1,4)=BAD set(2,4)=BAD set(MIN,4)=BAD set(MAX,4)=BAD set(2,3)=BAD set(2,5)=BAD",
                "set(0,5)=3 set(1,3)=5 count(8)=5 count(9)=3"),
            new Edge("12 the energy (0 to 20)",
                "set(0,-1)=BAD set(0,21)=BAD set(0,MIN)=BAD set(0,MAX)=BAD",
                "set(0,0)=3 count(8)=0 set(0,20)=0 count(8)=20 count(9)=5"),
            new Edge("12 the limit of splices (1 to 20)",
                "set(1,0)=BAD set(1,-1)=BAD set(1,21)=BAD set(1,MIN)=BAD set(1,MAX)=BAD",
                "set(1,1)=5 count(9)=1 set(1,20)=1 count(9)=20 count(8)=3"),
            new Edge("12 NONE if it is so already",
                "set(0,20)=3 set(0,20)=NONE set(0,0)=20 set(0,0)=NONE set(1,1)=5 set(1,1)=NONE set(1,20)=1 "
                    + "set(1,20)=NONE"),
            new Edge("12 Returns the previous one",
                "set(0,0)=3 set(0,7)=0 set(1,20)=5 set(1,1)=20 count(12)=4 undo() undo() undo()=1 count(8)=0"));
    }

    private static List<Edge> run() {
        return List.of(
            new Edge("13 NOT_POSSIBLE if there is no piece on the reel",
                "run()=NOT",
                "addScene(0,3) takeOut(0)=0 run()=NOT putIn(0,0)=0 run()=0",
                "addScene(0,3) undo()=0 run()=NOT"),
            new Edge("13 FULL if there have been 10 shows",
                TEN_SHOWS + "run()=FULL",
                TEN_SHOWS + "undo()=3 run()=9 run()=FULL"),
            new Edge("13 NOT_POSSIBLE ..; FULL", TEN_SHOWS + "takeOut(0)=0 run()=NOT"),
            new Edge("13 Returns the number of the show",
                TEN_SHOWS + "count(5)=10 show(9,0)=3 show(10,0)=UNKNOWN",
                "addScene(0,1) run()=0 run()=1 undo()=2 count(5)=1 run()=1"));
    }

    private static List<Edge> splices() {
        return List.of(
            new Edge("shows: Behind the first piece: the passes of the splice .. become greater by 1",
                "addScene(0,1) run() run() piece(0,4)=0",
                THREE + "run() reel=0:0-1,1:0-1/1,2:0-1/1 run() reel=0:0-1,1:0-1/2,2:0-1/2",
                "addScene(0,1) set(1,1) " + Edge.each(0, 9, "run()=@ show(@,6)=NONE")),
            new Edge("shows: If they are then greater than the limit of splices .., the splice breaks",
                TWO + "set(1,1) run() show(0,6)=NONE run() show(1,6)=1 run() show(2,6)=1",
                TWO + "run() run() run() run() run() show(4,6)=NONE run() show(5,6)=1 piece(1,4)=6",
                TWO + "run() run() run() set(1,4) run() show(3,6)=NONE run() show(4,6)=1",
                TWO + "set(1,1) run() run() show(1,6)=1 set(1,3) run() show(2,6)=NONE run() show(3,6)=1",
                TWO + "set(1,20) " + Edge.each(0, 9, "run()=@ show(@,6)=NONE")),
            new Edge("shows: the show ends there (and the passes stay so)",
                THREE + "set(1,2) run() run() run() show(2,*)=2,2,0,0,8,0,1,0 reel=0:0-1,1:0-1/3,2:0-1/2 "
                    + "frame(0,1,2)=3 frame(1,0,2)=2 frame(2,0,2)=2 run() show(3,6)=1 "
                    + "reel=0:0-1,1:0-1/4,2:0-1/2",
                THREE + "set(1,1) run() splice(1)=1 run() show(1,*)=4,4,0,0,16,0,2,0 "
                    + "reel=0:0-1,1:0-1/1,2:0-1/2 frame(2,0,2)=1",
                THREE + "dislike(1,true) set(1,1) run() show(0,7)=1 run() show(1,*)=2,2,0,0,8,0,1,0"));
    }

    private static List<Edge> energy() {
        return List.of(
            new Edge("shows: dislikes the kind of its scene, and has energy left",
                "addScene(2,4) dislike(2,true) set(0,0) run() show(0,*)=4,4,0,0,16,0,NONE,0",
                "addScene(2,4) addScene(2,4) dislike(2,true) set(0,1) run() show(0,*)=5,4,0,4,24,8,NONE,1 "
                    + "seen(0,0)=NONE seen(0,1)=100",
                "addScene(2,4) cut(1) cut(2) cut(3) dislike(2,true) run() show(0,*)=4,1,0,3,10,6,NONE,3 "
                    + "seen(0,2)=NONE seen(0,3)=3",
                FilmEdges.TWENTY + "dislike(0,true) set(0,20) run() show(0,*)=25,0,0,40,80,80,NONE,20",
                FilmEdges.TWENTY + "dislike(0,true) set(0,19) run() show(0,*)=40,21,0,19,122,38,NONE,19"),
            new Edge("shows: this costs 1 energy",
                "addScene(1,40) addScene(0,1) addScene(1,1) addScene(0,1) addScene(1,1) dislike(1,true) "
                    + "set(0,2) run() show(0,*)=14,3,0,41,94,82,NONE,2 seen(0,13)=400"),
            new Edge("shows: an energy .. for each show",
                "addScene(2,4) dislike(2,true) set(0,1) run() run() run() show(0,7)=1 show(1,7)=1 "
                    + "show(2,7)=1 count(8)=1"));
    }

    private static List<Edge> winding() {
        String wound = "dislike(2,true) run() show(0,0)=";
        return List.of(
            new Edge("shows: takes (its frames + 3) / 4 units of time (rounded down)",
                "addScene(2,1) " + wound + "1",
                "addScene(2,4) " + wound + "1",
                "addScene(2,5) " + wound + "2",
                "addScene(2,8) " + wound + "2",
                "addScene(2,9) " + wound + "3",
                "addScene(2,36) " + wound + "9",
                "addScene(2,37) " + wound + "10",
                "addScene(2,40) " + wound + "10",
                "addScene(2,2) cut(1) " + wound + "2"),
            new Edge("shows: units of time .., which are dark",
                "addScene(2,5) " + wound + "2 seen(0,0)=NONE seen(0,1)=NONE seen(0,2)=BAD",
                "addScene(2,40) " + wound + "10 seen(0,9)=NONE seen(0,10)=BAD"));
    }

    private static List<Edge> showing() {
        return List.of(
            new Edge("shows: Otherwise each of its frames takes one unit of time",
                "addScene(0,1) run() show(0,0)=1 seen(0,0)=0 seen(0,1)=BAD",
                Edge.each(0, 11, "addScene(0,40)=@") + "run() show(0,*)=480,480,0,0,1920,0,NONE,0 "
                    + "seen(0,479)=1139 seen(0,480)=BAD"),
            new Edge("shows: it is shown if at least 2 of its holes are good, otherwise it slips",
                WORSE + "run() show(0,1)=3 show(0,2)=2 frame(0,2,3)=1 frame(0,3,3)=0"),
            new Edge("shows: otherwise it slips, and the unit is dark",
                WORSE + "run() show(0,0)=5 seen(0,*)=0,1,2,NONE,NONE,BAD"));
    }

    private static List<Edge> counting() {
        return List.of(
            new Edge("shows: The counter counts the good holes of each frame that is shown or slips",
                WORSE + "run() show(0,*)=5,3,2,0,10,0,NONE,0"),
            new Edge("shows: half of those (rounded down, frame by frame) of each frame that is wound",
                WORSE + "dislike(2,true) run() show(0,*)=2,0,0,5,4,6,NONE,1",
                "addScene(2,2) tear(0,0,0) tear(0,1,1) dislike(2,true) run() show(0,*)=1,0,0,2,2,4,NONE,1"),
            new Edge("shows: The loss .. of all frames that went through",
                "addScene(2,2) addScene(2,2) dislike(2,true) set(1,1) run() show(0,5)=8 run() "
                    + "show(1,*)=1,0,0,2,4,4,1,1"),
            new Edge("shows: (This is behind the counting.)",
                "addScene(0,1) tear(0,0,0) run() run() run() show(2,4)=3 run() show(3,4)=2",
                "addScene(0,1) tear(0,0,0) tear(0,0,1) run() run() run() show(2,1)=1 seen(2,0)=0 "
                    + "frame(0,0,3)=0 run() show(3,2)=1 seen(3,0)=NONE",
                "addScene(2,1) tear(0,0,0) tear(0,0,1) dislike(2,true) run() run() run() "
                    + "show(2,*)=1,0,0,1,1,1,NONE,1 run() show(3,*)=1,0,0,1,0,1,NONE,1"));
    }

    private static List<Edge> wearing() {
        return List.of(
            new Edge("shows: The passes of each of all these frames (shown, slipped or wound) .. by 1",
                "addScene(0,2) addScene(1,1) tear(0,1,0) tear(0,1,1) tear(0,1,2)=1 dislike(1,true) run() "
                    + "frame(0,0,2)=1 frame(0,1,2)=1 frame(1,0,2)=1 run() frame(1,0,2)=2",
                "addScene(0,2) cut(1) takeOut(1) run() frame(0,0,2)=1 frame(0,1,2)=0"),
            new Edge("shows: if a frame has 1, 2 or 3 torn holes .. its lowest good hole tears",
                WORSE + "run() run() frame(0,1,1)=8 frame(0,2,1)=5 frame(0,3,1)=11 run() frame(0,0,1)=0 "
                    + "frame(0,1,1)=9 frame(0,2,1)=7 frame(0,3,1)=15 frame(0,4,1)=15 scene(0,4)=13",
                WORSE + "dislike(2,true) run() run() scene(0,4)=10 run() scene(0,4)=13",
                "addScene(0,2) tear(0,0,0) tear(0,1,1) run() run() run() frame(0,0,1)=3 frame(0,1,1)=3"),
            new Edge("shows: and its passes can be divided by 3",
                "addScene(0,1) tear(0,0,3) run() run() frame(0,0,1)=8 run() frame(0,0,1)=9 run() run() "
                    + "frame(0,0,1)=9 run() frame(0,0,1)=11 run() run() frame(0,0,1)=11 run() "
                    + "frame(0,0,*)=0,15,9,0 run() frame(0,0,1)=15",
                "addScene(0,1) run() run() tear(0,0,0)=3 run() frame(0,0,1)=3",
                "addScene(0,1) run() run() run() tear(0,0,0) run() run() frame(0,0,1)=1 run() frame(0,0,1)=3",
                "addScene(0,1) tear(0,0,0) run() run() patch(0,0)=1 run() frame(0,0,*)=0,0,3,1"));
    }

    private static List<Edge> addWitness() {
        return List.of(
            new Edge("14 `show`: a show",
                "addScene(0,6) addWitness(0,0,1)=UNKNOWN",
                ONE_SHOW + "addWitness(-1,0,1)=UNKNOWN addWitness(1,0,1)=UNKNOWN addWitness(MIN,0,1)=UNKNOWN "
                    + "addWitness(MAX,0,1)=UNKNOWN addWitness(0,0,1)=0",
                ONE_SHOW + "run()=1 undo()=2 addWitness(1,0,1)=UNKNOWN"),
            new Edge("14 `from`: .. 0 or more",
                ONE_SHOW + "addWitness(0,-1,1)=BAD addWitness(0,MIN,1)=BAD addWitness(0,MIN,MAX)=BAD "
                    + "addWitness(0,-2,-1)=BAD addWitness(0,0,1)=0"),
            new Edge("14 `to`: .. greater than from",
                ONE_SHOW + "addWitness(0,0,0)=BAD addWitness(0,3,3)=BAD addWitness(0,3,2)=BAD "
                    + "addWitness(0,6,6)=BAD addWitness(0,0,-1)=BAD addWitness(0,0,MIN)=BAD "
                    + "addWitness(0,MAX,MIN)=BAD addWitness(0,MAX,1)=BAD addWitness(0,3,4)=0"),
            new Edge("14 not greater than the units that the show took",
                ONE_SHOW + "addWitness(0,0,7)=BAD addWitness(0,5,7)=BAD addWitness(0,6,7)=BAD "
                    + "addWitness(0,0,MAX)=BAD addWitness(0,0,6)=0 addWitness(0,5,6)=1",
                "addScene(2,5) dislike(2,true) run() addWitness(0,0,3)=BAD addWitness(0,0,2)=0",
                "addScene(0,2) addScene(0,2) set(1,1) run() run() addWitness(1,0,3)=BAD addWitness(1,0,2)=0 "
                    + "addWitness(0,0,4)=1",
                Edge.each(0, 11, "addScene(0,40)=@") + "run() addWitness(0,0,481)=BAD addWitness(0,479,480)=0 "
                    + "addWitness(0,0,480)=1"));
    }

    private static List<Edge> roomForWitnesses() {
        return List.of(
            new Edge("14 FULL if there are 8",
                EIGHT + "addWitness(0,0,1)=FULL",
                EIGHT + "undo()=3 addWitness(0,2,3)=7 addWitness(0,2,3)=FULL"),
            new Edge("14 UNKNOWN; BAD_VALUE",
                "addWitness(0,-1,0)=UNKNOWN",
                ONE_SHOW + "addWitness(1,-1,0)=UNKNOWN addWitness(-1,0,9)=UNKNOWN"),
            new Edge("14 UNKNOWN; .. FULL", EIGHT + "addWitness(1,0,1)=UNKNOWN addWitness(-1,0,1)=UNKNOWN"),
            new Edge("14 BAD_VALUE; FULL",
                EIGHT + "addWitness(0,1,1)=BAD addWitness(0,0,7)=BAD addWitness(0,-1,1)=BAD"),
            new Edge("14 Returns the witness's number", EIGHT + "count(6)=8 witness(7,2)=6 witness(8,2)=UNKNOWN"));
    }
}
