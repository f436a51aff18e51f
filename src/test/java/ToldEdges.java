import java.util.List;

/** The boundary cases that promises 21 to 32 name. */
final class ToldEdges {
    private static final String FILM = "addScene(4,3) addScene(1,40) addScene(2,1) ";
    private static final String LARGEST = Edge.each(0, 11, "addScene(0,40)=@");
    /**
     * Show 0 of scenes of 3, 5 and 1 frames: 0, a slip, 2, two dark units of winding, 200. In show 1
     * the splice of piece 2 breaks.
     */
    private static final String SHOWS = "addScene(0,3) addScene(1,5) addScene(2,1) tear(0,1,0) tear(0,1,1) "
        + "tear(0,1,3)=1 dislike(1,true) run()=0 set(1,1) splice(1)=1 run()=1 ";
    private static final String WITNESSES = SHOWS + "addWitness(0,0,3)=0 addWitness(0,1,6)=1 addWitness(0,3,5)=2 "
        + "addWitness(1,0,5)=3 addWitness(0,5,6)=4 ";

    private ToldEdges() {
    }

    static List<List<Edge>> edges() {
        return List.of(scene(), scenesFrames(), sceneInOrder(), piece(), canned(), frameAt(), frame(),
                framesNumbers(), show(), showsNumbers(), seen(), witness(), witnessesNumbers(), saw(),
                differ(), next(), count(), counted());
    }

    private static List<Edge> scene() {
        return List.of(
            new Edge("21 UNKNOWN",
                "scene(0,0)=UNKNOWN",
                FILM + "scene(-1,0)=UNKNOWN scene(3,0)=UNKNOWN scene(MIN,0)=UNKNOWN scene(MAX,0)=UNKNOWN "
                    + "scene(2,0)=2 undo()=2 scene(2,0)=UNKNOWN",
                LARGEST + "scene(11,1)=40 scene(12,1)=UNKNOWN"),
            new Edge("21 BAD_VALUE",
                FILM + "scene(0,-1)=BAD scene(0,6)=BAD scene(0,MIN)=BAD scene(0,MAX)=BAD scene(0,*)=4,3,3,1,0,1"),
            new Edge("21 UNKNOWN; BAD_VALUE", FILM + "scene(3,6)=UNKNOWN scene(-1,-1)=UNKNOWN"));
    }

    private static List<Edge> scenesFrames() {
        return List.of(
            new Edge("21 2 for those that are on the reel",
                FILM + "scene(1,2)=40 takeOut(1) scene(1,2)=0 scene(0,2)=3",
                FILM + "cut(4) takeOut(1) scene(1,2)=39 takeOut(1) scene(1,2)=0 putIn(0,0) scene(1,2)=1"),
            new Edge("21 3 for its pieces (on the reel and in the can)",
                FILM + "scene(0,3)=1 cut(1) scene(0,3)=2 takeOut(0) scene(0,3)=2 takeOut(0) scene(0,3)=2 "
                    + "scene(1,3)=1",
                FilmEdges.FULL_CAN + Edge.each(1, 19, "cut(@)=@") + "scene(0,3)=40"),
            new Edge("21 4 for the holes that are torn in it",
                FILM + "tear(1,39,0) tear(2,0,0) tear(2,0,3) scene(0,4)=0 scene(1,4)=1 scene(2,4)=2 takeOut(1) "
                    + "scene(1,4)=1",
                "addScene(0,1) tear(0,0,0) tear(0,0,1) tear(0,0,2) tear(0,0,3) scene(0,4)=4"));
    }

    private static List<Edge> sceneInOrder() {
        return List.of(
            new Edge("21 5 for whether its frames that are on the reel stand in their order",
                "addScene(0,6) addScene(1,2) cut(2) cut(4) scene(0,5)=1 move(3,1) scene(0,5)=1 scene(1,5)=1 "
                    + "move(0,2) reel=1:0-1,0:2-3,0:0-1,0:4-5 scene(0,5)=0 scene(1,5)=1",
                "addScene(0,3) cut(1) cut(2) move(1,2) scene(0,5)=0 takeOut(2) scene(0,5)=1 takeOut(0) scene(0,5)=1",
                "addScene(0,2) cut(1) move(1,0) scene(0,5)=0 takeOut(1) scene(0,5)=1 putIn(0,0) scene(0,5)=1",
                "addScene(0,1) takeOut(0)=0 scene(0,5)=1"));
    }

    private static List<Edge> piece() {
        return List.of(
            new Edge("22 UNKNOWN",
                "piece(0,0)=UNKNOWN",
                FILM + "piece(-1,0)=UNKNOWN piece(3,0)=UNKNOWN piece(MIN,0)=UNKNOWN piece(MAX,0)=UNKNOWN "
                    + "piece(2,0)=2 takeOut(0) piece(2,0)=UNKNOWN",
                FilmEdges.TWENTY + "piece(19,*)=0,19,39,19,0 piece(20,0)=UNKNOWN"),
            new Edge("22 BAD_VALUE",
                FILM + "piece(1,-1)=BAD piece(1,5)=BAD piece(1,MIN)=BAD piece(1,MAX)=BAD piece(1,*)=1,0,39,3,0"),
            new Edge("22 UNKNOWN; BAD_VALUE", FILM + "piece(3,5)=UNKNOWN piece(-1,-1)=UNKNOWN"),
            new Edge("22 the position of its first frame",
                FILM + "piece(0,3)=0 piece(2,3)=43 cut(43)=NONE move(2,0)=0 piece(0,3)=0 piece(1,3)=1"),
            new Edge("22 the passes of its splice",
                FILM + "piece(0,4)=0 piece(2,4)=0 set(1,1) run() run() piece(0,4)=0 piece(1,4)=2 piece(2,4)=1"));
    }

    private static List<Edge> canned() {
        return List.of(
            new Edge("23 UNKNOWN",
                FILM + "canned(0,0)=UNKNOWN takeOut(1) takeOut(0) canned(-1,0)=UNKNOWN canned(2,0)=UNKNOWN "
                    + "canned(MIN,0)=UNKNOWN canned(MAX,0)=UNKNOWN canned(1,0)=0 putIn(0,0) canned(1,0)=UNKNOWN",
                FilmEdges.FULL_CAN + "canned(19,*)=0,19,19 canned(20,0)=UNKNOWN"),
            new Edge("23 BAD_VALUE",
                FILM + "takeOut(1) canned(0,-1)=BAD canned(0,3)=BAD canned(0,4)=BAD canned(0,MIN)=BAD "
                    + "canned(0,MAX)=BAD canned(0,*)=1,0,39"),
            new Edge("23 UNKNOWN; BAD_VALUE", FILM + "canned(0,3)=UNKNOWN canned(-1,-1)=UNKNOWN"));
    }

    private static List<Edge> frameAt() {
        return List.of(
            new Edge("24 BAD_VALUE if position is negative",
                FILM + "frameAt(-1)=BAD frameAt(MIN)=BAD frameAt(0)=0",
                "frameAt(-1)=BAD"),
            new Edge("24 NONE if there are not so many",
                "frameAt(0)=NONE frameAt(MAX)=NONE",
                FILM + "frameAt(44)=NONE frameAt(45)=NONE frameAt(MAX)=NONE frameAt(43)=200 frameAt(42)=139 "
                    + "takeOut(0) frameAt(41)=NONE frameAt(40)=200",
                LARGEST + "frameAt(479)=1139 frameAt(480)=NONE"));
    }

    private static List<Edge> frame() {
        return List.of(
            new Edge("25 UNKNOWN (scene ..)",
                "frame(0,0,0)=UNKNOWN",
                FILM + "frame(-1,0,0)=UNKNOWN frame(3,0,0)=UNKNOWN frame(MIN,0,0)=UNKNOWN frame(MAX,0,0)=UNKNOWN "
                    + "frame(536870912,0,0)=UNKNOWN"),
            new Edge("25 UNKNOWN (.. or frame)",
                FILM + "frame(0,-1,0)=UNKNOWN frame(0,3,0)=UNKNOWN frame(1,-1,0)=UNKNOWN frame(1,40,0)=UNKNOWN "
                    + "frame(2,1,0)=UNKNOWN frame(0,40,0)=UNKNOWN frame(1,MIN,0)=UNKNOWN frame(1,MAX,0)=UNKNOWN"),
            new Edge("25 BAD_VALUE",
                FILM + "frame(0,2,-1)=BAD frame(0,2,4)=BAD frame(0,2,MIN)=BAD frame(0,2,MAX)=BAD "
                    + "frame(0,2,*)=2,0,0,1 takeOut(0) frame(0,2,4)=BAD"),
            new Edge("25 UNKNOWN (scene or frame); BAD_VALUE", FILM + "frame(3,0,4)=UNKNOWN frame(0,3,-1)=UNKNOWN"));
    }

    private static List<Edge> framesNumbers() {
        return List.of(
            new Edge("25 its position on the reel (NONE if it is in the can)",
                FILM + "frame(0,0,0)=0 frame(1,39,0)=42 frame(2,0,0)=43 takeOut(1) frame(1,0,0)=NONE "
                    + "frame(1,39,0)=NONE frame(2,0,0)=3",
                FILM + "cut(4) takeOut(1) frame(1,0,0)=NONE frame(1,1,0)=3"),
            new Edge("25 its torn holes (as bits)",
                FILM + "tear(0,2,0) frame(0,2,1)=1 tear(0,2,3) frame(0,2,1)=9 tear(0,2,1) tear(0,2,2) frame(0,2,1)=15"),
            new Edge("25 its passes",
                FILM + "cut(4) takeOut(1) run() frame(1,0,2)=0 frame(1,1,2)=1 frame(2,0,2)=1"),
            new Edge("25 whether it would be shown if it was not wound",
                FILM + "dislike(4,true) frame(0,2,3)=1 tear(0,2,0) tear(0,2,1) frame(0,2,3)=1 tear(0,2,2) "
                    + "frame(0,2,3)=0 tear(0,2,3)=0 frame(0,2,3)=0 frame(0,1,3)=1 takeOut(0) "
                    + "frame(0,2,3)=0 frame(0,1,3)=1"));
    }

    private static List<Edge> show() {
        return List.of(
            new Edge("26 UNKNOWN",
                "show(0,0)=UNKNOWN",
                SHOWS + "show(-1,0)=UNKNOWN show(2,0)=UNKNOWN show(MIN,0)=UNKNOWN show(MAX,0)=UNKNOWN "
                    + "undo()=3 show(1,0)=UNKNOWN show(0,0)=6",
                ShowsEdges.TEN_SHOWS + "show(9,0)=3 show(10,0)=UNKNOWN"),
            new Edge("26 BAD_VALUE",
                SHOWS + "show(0,-1)=BAD show(0,8)=BAD show(0,MIN)=BAD show(0,MAX)=BAD show(0,*)=6,3,1,5,23,10,NONE,1"),
            new Edge("26 UNKNOWN; BAD_VALUE", SHOWS + "show(2,8)=UNKNOWN show(-1,-1)=UNKNOWN"));
    }

    private static List<Edge> showsNumbers() {
        return List.of(
            new Edge("26 the piece at whose splice it ended (NONE if none broke)",
                SHOWS + "show(0,6)=NONE show(1,6)=2 run() show(2,6)=1",
                FilmEdges.TWENTY + "run() set(1,1) " + Edge.each(1, 18, "splice(@)=1") + "run() show(1,6)=19"),
            new Edge("26 the pieces that were wound",
                SHOWS + "show(0,7)=1 show(1,7)=1 dislike(1,false) run() show(2,7)=0"),
            new Edge("26 those that slipped",
                SHOWS + "show(0,2)=1 patch(0,1) run() show(2,2)=0"));
    }

    private static List<Edge> seen() {
        return List.of(
            new Edge("27 UNKNOWN",
                "seen(0,0)=UNKNOWN",
                SHOWS + "seen(-1,0)=UNKNOWN seen(2,0)=UNKNOWN seen(MIN,0)=UNKNOWN seen(MAX,0)=UNKNOWN"),
            new Edge("27 BAD_VALUE if there is no such unit in the show",
                SHOWS + "seen(0,-1)=BAD seen(0,6)=BAD seen(0,MIN)=BAD seen(0,MAX)=BAD seen(0,5)=200 seen(1,5)=BAD",
                "addScene(2,40) dislike(2,true) run() seen(0,10)=BAD seen(0,9)=NONE",
                LARGEST + "run() seen(0,479)=1139 seen(0,480)=BAD"),
            new Edge("27 UNKNOWN; BAD_VALUE", SHOWS + "seen(2,6)=UNKNOWN seen(-1,-1)=UNKNOWN"),
            new Edge("27 NONE if it was dark", SHOWS + "seen(0,*)=0,NONE,2,NONE,NONE,200 seen(1,4)=NONE"));
    }

    private static List<Edge> witness() {
        return List.of(
            new Edge("28 UNKNOWN",
                SHOWS + "witness(0,0)=UNKNOWN",
                WITNESSES + "witness(-1,0)=UNKNOWN witness(5,0)=UNKNOWN witness(MIN,0)=UNKNOWN "
                    + "witness(MAX,0)=UNKNOWN witness(4,0)=0 undo()=3 witness(4,0)=UNKNOWN"),
            new Edge("28 BAD_VALUE",
                WITNESSES + "witness(1,-1)=BAD witness(1,6)=BAD witness(1,MIN)=BAD witness(1,MAX)=BAD "
                    + "witness(1,*)=0,1,6,2,3,5"),
            new Edge("28 UNKNOWN; BAD_VALUE", WITNESSES + "witness(5,6)=UNKNOWN witness(-1,-1)=UNKNOWN"));
    }

    private static List<Edge> witnessesNumbers() {
        return List.of(
            new Edge("witnesses: from one unit of time on up to another one (this one not)",
                WITNESSES + "witness(0,*)=0,0,3,2,1,1 witness(2,*)=0,3,5,0,2,0 witness(4,*)=0,5,6,1,0,4",
                SHOWS + "addWitness(0,2,3)=0 witness(0,3)=1 addWitness(0,1,2)=1 witness(1,3)=0 addWitness(0,0,6)=2 "
                    + "witness(2,*)=0,0,6,3,3,5",
                LARGEST + "run() addWitness(0,0,480)=0 witness(0,*)=0,0,480,480,0,4095 addWitness(0,39,41)=1 "
                    + "witness(1,*)=0,39,41,2,0,3"),
            new Edge("28 the frames that they saw, 4 for the dark units",
                WITNESSES + "witness(2,3)=0 witness(2,4)=2 witness(3,3)=2 witness(3,4)=3"),
            new Edge("28 the scenes of which they saw any frame (as bits)",
                WITNESSES + "witness(2,5)=0 witness(1,5)=5 witness(3,5)=1"));
    }

    private static List<Edge> saw() {
        return List.of(
            new Edge("29 UNKNOWN (witness ..)",
                SHOWS + "saw(0,0)=UNKNOWN",
                WITNESSES + "saw(-1,0)=UNKNOWN saw(5,0)=UNKNOWN saw(MIN,0)=UNKNOWN saw(MAX,0)=UNKNOWN"),
            new Edge("29 UNKNOWN (.. or scene)",
                WITNESSES + "saw(0,-1)=UNKNOWN saw(0,3)=UNKNOWN saw(0,MIN)=UNKNOWN saw(0,MAX)=UNKNOWN "
                    + "addScene(0,1)=3 saw(0,3)=0"),
            new Edge("29 Returns how many frames of the scene they saw",
                WITNESSES + "saw(0,*)=2,0,0 saw(1,*)=1,0,1 saw(2,*)=0,0,0 saw(3,*)=2,0,0 saw(4,*)=0,0,1",
                LARGEST + "run() addWitness(0,0,480)=0 saw(0,0)=40 saw(0,11)=40 addWitness(0,39,41)=1 "
                    + "saw(1,*)=1,1,0,0,0,0,0,0,0,0,0,0"));
    }

    private static List<Edge> differ() {
        return List.of(
            new Edge("30 UNKNOWN",
                "differ(0,0)=UNKNOWN",
                WITNESSES + "differ(-1,0)=UNKNOWN differ(5,0)=UNKNOWN differ(MIN,0)=UNKNOWN differ(MAX,0)=UNKNOWN",
                WITNESSES + "differ(0,-1)=UNKNOWN differ(0,5)=UNKNOWN differ(0,MIN)=UNKNOWN differ(0,MAX)=UNKNOWN "
                    + "differ(5,5)=UNKNOWN"),
            new Edge("30 NOT_POSSIBLE if they were not at the same show",
                WITNESSES + "differ(0,3)=NOT differ(3,0)=NOT differ(3,4)=NOT differ(3,3)=0"),
            new Edge("30 UNKNOWN; NOT_POSSIBLE", WITNESSES + "differ(3,5)=UNKNOWN differ(5,3)=UNKNOWN"),
            new Edge("30 how many scenes one of both saw a frame of and the other one did not",
                WITNESSES + "differ(0,0)=0 differ(0,1)=1 differ(1,0)=1 differ(0,2)=1 differ(1,2)=2 differ(0,4)=2 "
                    + "differ(1,4)=1 differ(2,2)=0",
                LARGEST + "run() addWitness(0,0,240) addWitness(0,240,480) differ(0,1)=12 addWitness(0,0,480) "
                    + "differ(0,2)=6 differ(2,2)=0"));
    }

    private static List<Edge> next() {
        return List.of(
            new Edge("31 `what`: 0 to 7 as for show()",
                SHOWS + "next(-1)=BAD next(8)=BAD next(MIN)=BAD next(MAX)=BAD next(*)=3,2,1,0,9,0,1,0"),
            new Edge("31 NOT_POSSIBLE if there is no piece on the reel",
                "next(0)=NOT next(7)=NOT",
                "addScene(0,3) next(0)=3 takeOut(0) next(0)=NOT next(6)=NOT",
                ShowsEdges.TEN_SHOWS + "takeOut(0) next(0)=NOT"),
            new Edge("31 BAD_VALUE; NOT_POSSIBLE", "next(-1)=BAD next(8)=BAD next(MIN)=BAD next(MAX)=BAD"),
            new Edge("31 (also when there have been 10)",
                ShowsEdges.TEN_SHOWS + "run()=FULL next(*)=3,3,0,0,12,0,NONE,0 tear(0,0,0) tear(0,0,1) tear(0,0,2) "
                    + "next(*)=3,2,1,0,9,0,NONE,0"),
            new Edge("31 Tells what the next show would be if it was run now",
                "addScene(0,2) addScene(0,2) set(1,1) next(6)=NONE next(6)=NONE run() next(6)=1 next(0)=2 "
                    + "reel=0:0-1,1:0-1/1 frame(0,0,2)=1 count(5)=1 count(12)=4 run()=1 show(1,6)=1 show(1,0)=2",
                "addScene(0,1) tear(0,0,0) run() run() next(4)=3 next(4)=3 next(4)=3 frame(0,0,1)=1 run() "
                    + "show(2,4)=3 next(4)=2"));
    }

    private static List<Edge> count() {
        return List.of(
            new Edge("32 BAD_VALUE",
                "count(-1)=BAD count(14)=BAD count(MIN)=BAD count(MAX)=BAD count(0)=0 count(13)=0"),
            new Edge("32 (each number at its largest)",
                LARGEST + "count(0)=12 count(3)=480 count(4)=0 " + Edge.each(0, 11, "takeOut(0)")
                    + "count(1)=0 count(2)=12 count(3)=0 count(4)=480",
                FilmEdges.FULL_CAN + Edge.each(1, 19, "cut(@)=@") + "count(1)=20 count(2)=20 count(3)=20 count(4)=20",
                ShowsEdges.TEN_SHOWS + Edge.each(0, 7, "addWitness(9,0,3)=@") + "count(5)=10 count(6)=8 count(12)=4",
                Edge.each(0, 5, "dislike(@,true)") + "set(0,20) set(1,20) count(7)=63 count(8)=20 count(9)=20",
                Edge.each(1, 60, "type(32)=@") + "count(13)=60"));
    }

    private static List<Edge> counted() {
        String three = "addScene(0,1) addScene(0,1) addScene(0,1) ";
        return List.of(
            new Edge("32 7 for kinds that are disliked (as bits)",
                "count(7)=0 dislike(0,true) count(7)=1 dislike(5,true) count(7)=33 dislike(0,false) count(7)=32"),
            new Edge("32 10 for all torn holes",
                FILM + "tear(0,2,0) tear(1,39,0) tear(1,39,3) tear(2,0,2) count(10)=4 takeOut(1) count(10)=4 "
                    + "patch(1,39)=2 count(10)=2"),
            new Edge("32 11 for splices .. whose passes are not less than the limit",
                three + "set(1,2) run() count(11)=0 run() count(11)=2 run() count(11)=2 set(1,3) count(11)=1 "
                    + "set(1,4) count(11)=0 set(1,1) count(11)=2 splice(1)=3 count(11)=1",
                three + "set(1,1) count(11)=0 run() count(11)=2"),
            new Edge("32 11 for splices (behind the first piece)",
                three + "set(1,1) run() takeOut(0) count(11)=1 takeOut(0) count(11)=0"),
            new Edge("32 12 for the states in the history",
                "count(12)=0 set(0,1) count(12)=1 set(0,2) set(0,3) set(0,4) count(12)=4 set(0,5) count(12)=4 "
                    + "undo() count(12)=3"),
            new Edge("32 13 for the length of the text",
                "count(13)=0 type(99) count(13)=1 clearText() count(13)=0"));
    }
}
