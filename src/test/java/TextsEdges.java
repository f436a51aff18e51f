import java.util.List;

/** The boundary cases that promises 15 to 17 name, and those of the texts in the document's terms. */
final class TextsEdges {
    private static final String SIXTY = Edge.each(1, 60, "type(99)=@");
    private static final String FILM = "addScene(0,10) addScene(1,2) ";
    /** 20 edits in 59 characters. */
    private static final String TWENTY_EDITS = "c0;c1;c2;c3;c4;c5;c6;c7;c8;c9;c0;c1;c2;c3;c4;c5;c6;c7;c8;c9";

    private TextsEdges() {
    }

    static List<List<Edge>> edges() {
        return List.of(type(), clearText(), ends(), places(), numbers(), editing(), oneAct(), errors());
    }

    private static List<Edge> type() {
        return List.of(
            new Edge("15 FULL if it has 60 characters",
                SIXTY + "type(99)=FULL type(0)=FULL count(13)=60 clearText()=60 type(99)=1",
                SIXTY + "type(59)=FULL edit()=-101"),
            new Edge("15 `character`: any character",
                "type(0)=1 type(127)=2 type(128)=3 type(255)=4 type(256)=5 type(65535)=6 type(32)=7 edit()=-100"),
            new Edge("15 Returns the length of the text then", "type(99)=1 type(49)=2 type(59)=3 count(13)=3"),
            new Edge("15 Types a character behind the text.",
                FILM + "type(99)=1 type(49)=2 type(48)=3 edit()=1",
                FILM + "type(99) type(51) type(59) type(99) type(54) edit()=2 reel=0:0-2,0:3-5,0:6-9,1:0-1"));
    }

    private static List<Edge> clearText() {
        return List.of(
            new Edge("16 Returns the length that it had",
                "clearText()=0 type(99)=1 clearText()=1 clearText()=0",
                SIXTY + "clearText()=60 clearText()=0"),
            new Edge("16 Empties the text.",
                FILM + "text(c1) clearText()=2 count(13)=0 edit()=-100",
                FILM + "text(c3;c5) clearText()=5 type(99)=1 edit()=-101 type(52)=2 edit()=1 "
                    + "reel=0:0-3,0:4-9,1:0-1"));
    }

    private static List<Edge> ends() {
        return List.of(
            new Edge("texts: at most 60 characters, empty at first",
                "count(13)=0 clearText()=0 edit()=-100 " + SIXTY + "type(99)=FULL"),
            new Edge("texts: (the empty text does)", "edit()=-100", FILM + "text(c3) clearText()=2 edit()=-100"),
            new Edge("texts: or the length of the text if it ends too early",
                FILM + "text(c) edit()=-101 text(c1;) edit()=-103 text(c1;j) edit()=-104 text(m) edit()=-101",
                FILM + "text(m1) edit()=-102 text(m12) edit()=-103 text(m1,) edit()=-103 text(i) edit()=-101",
                FILM + "text(i0) edit()=-102 text(i0,) edit()=-103 text(c1;i123) edit()=-107",
                FILM + "text(" + TWENTY_EDITS + ";) count(13)=60 edit()=-160"));
    }

    private static List<Edge> places() {
        return List.of(
            new Edge("texts: the index, from 0, of the first character that is not allowed at its place",
                "text(x1) edit()=-100 text(C1) edit()=-100 text(1) edit()=-100 text(,) edit()=-100",
                "type(32)=1 edit()=-100 type(99)=2 edit()=-100",
                "text(cc) edit()=-101 text(c,1) edit()=-101 text(c;1) edit()=-101 text(c-1) edit()=-101",
                "text(c/) edit()=-101 text(c:) edit()=-101 text(c+1) edit()=-101 text(m,1) edit()=-101",
                "text(c1) type(32) edit()=-102 text(c1x) edit()=-102 text(c1/) edit()=-102 text(c1:) edit()=-102",
                "text(m1,,) edit()=-103 text(m1,;) edit()=-103 text(m1,x) edit()=-103 text(m1,2,) edit()=-104",
                "text(c1;x) edit()=-103 text(c1;1) edit()=-103 text(c1;,) edit()=-103 text(c1;c1;C) edit()=-106",
                "text(xyz) edit()=-100 text(c1xy;;) edit()=-102",
                "text(c) type(256) edit()=-101 text(c1) type(65535) edit()=-102 text(c1) type(0) edit()=-102",
                "type(355) type(49) edit()=-100 text(c) type(1585) edit()=-101 text(c1) type(315) edit()=-102",
                FILM + "text(" + TWENTY_EDITS + "x) edit()=-159"),
            new Edge("texts: one or more edits with \";\" between two",
                "text(;) edit()=-100 text(;c1) edit()=-100 text(c1;;c2) edit()=-103 text(c1c2) edit()=-102 "
                    + "text(c1,c2) edit()=-102",
                FILM + "text(c1) edit()=1 text(c3;c4) edit()=2 text(" + TWENTY_EDITS + ") edit()=20"),
            new Edge("texts: An edit is \"c\" and a position",
                FILM + "text(c1,2) edit()=-102 text(c4) edit()=1 reel=0:0-3,0:4-9,1:0-1"),
            new Edge("texts: \"j\" and a piece",
                FILM + "cut(4) text(j0,1) edit()=-102 text(j0) edit()=1 reel=0:0-9,1:0-1"),
            new Edge("texts: \"o\" and a piece",
                FILM + "text(o1,0) edit()=-102 text(o1) edit()=1 reel=0:0-9 can=1:0-1"),
            new Edge("texts: \"i\" and a piece of the can, \",\" and a piece",
                FILM + "takeOut(0) text(i0) edit()=-102 text(i0;1) edit()=-102 text(i0,1) edit()=1 "
                    + "reel=1:0-1,0:0-9 can="),
            new Edge("texts: or \"m\" and a piece, \",\" and a piece",
                FILM + "text(m0) edit()=-102 text(m0;1) edit()=-102 text(m0,1) edit()=1 reel=1:0-1,0:0-9"));
    }

    private static List<Edge> numbers() {
        return List.of(
            new Edge("texts: A number has one to three digits",
                FILM + "text(c) edit()=-101 text(c9) edit()=1 text(c10) edit()=1 text(c999) edit()=BAD "
                    + "text(c1000) edit()=-104 text(c9999) edit()=-104",
                FILM + "text(m1234,0) edit()=-104 text(m0,1234) edit()=-106 text(m999,0) edit()=UNKNOWN "
                    + "text(m0,999) edit()=UNKNOWN text(m0,) edit()=-103",
                "addScene(0,40) addScene(0,40) addScene(0,40) text(c101) edit()=1 reel=0:0-39,1:0-39,2:0-20,2:21-39"),
            new Edge("texts: without a zero in front (unless it is the single digit 0)",
                FILM + "text(c0) edit()=1 text(c00) edit()=-102 text(c01) edit()=-102 text(c012) edit()=-102 "
                    + "text(c000) edit()=-102",
                FILM + "text(m00,1) edit()=-102 text(m0,00) edit()=-104 text(m0,01) edit()=-104 "
                    + "text(m0,0) edit()=1 text(o0;i0,0) edit()=2",
                FILM + "text(c10;c100) edit()=BAD"));
    }

    private static List<Edge> editing() {
        return List.of(
            new Edge("17 Does the edits .. one after the other",
                FILM + "text(c3;c6;m0,2;o1;i0,0) edit()=5 reel=0:6-9,0:3-5,0:0-2,1:0-1",
                FILM + "text(o0;o0;i1,0;i0,0) edit()=4 reel=0:0-9,1:0-1"),
            new Edge("17 of the text, which stays",
                FILM + "text(m0,1) edit()=1 count(13)=4 edit()=1 reel=0:0-9,1:0-1 clearText()=4"),
            new Edge("17 each by itself (so a piece that is taken out and put back has new splices)",
                FILM + "addScene(2,1) run() text(o1;i0,1) edit()=2 reel=0:0-9,1:0-1,2:0-0",
                FILM + "addScene(2,1) run() text(m1,2;m2,1) edit()=2 reel=0:0-9,1:0-1,2:0-0",
                FILM + "addScene(2,1) run() text(c5;j0) edit()=2 reel=0:0-9,1:0-1/1,2:0-0/1"),
            new Edge("17 Returns how many there are",
                FILM + "text(c3) edit()=1 text(c3;c4;c5) edit()=3 text(" + TWENTY_EDITS + ") edit()=20"),
            new Edge("17 (NONE is no error here: the edit does nothing then)",
                FILM + "run() text(c0;m1,1;c10) edit()=3 reel=0:0-9,1:0-1/1",
                FILM + "text(c0;c2;c2;m0,0;c5) edit()=5 reel=0:0-1,0:2-4,0:5-9,1:0-1",
                FilmEdges.TWENTY + "text(c19) edit()=1 count(1)=20"));
    }

    private static List<Edge> oneAct() {
        return List.of(
            new Edge("17 This is one act.",
                FILM + "text(c3;c6;o0) edit()=3 count(12)=3 undo()=2 reel=0:0-9,1:0-1 can= undo()=1",
                FILM + "set(0,1) set(0,2) text(c3;c6) edit()=2 count(12)=4 undo()=3 count(8)=2 undo()=2",
                FILM + "text(c0) edit()=1 count(12)=3 undo()=2 count(12)=2"),
            new Edge("17 all of them, or none",
                FILM + "text(c1;c2;j9) edit()=UNKNOWN reel=0:0-9,1:0-1",
                FILM + "text(o0;o0;i0,0;m1,0) edit()=UNKNOWN reel=0:0-9,1:0-1 can=",
                FILM + "run() text(m0,1;o0;c99) edit()=BAD reel=0:0-9,1:0-1/1 can=",
                FILM + "text(c1;c2;x) edit()=-106 reel=0:0-9,1:0-1"));
    }

    private static List<Edge> errors() {
        return List.of(
            new Edge("17 -100 minus the fault of the text if it has one; otherwise .. the error",
                FILM + "text(j9;x) edit()=-103 text(c99;c01) edit()=-106 text(c3;) edit()=-103",
                FilmEdges.TWENTY + "text(c39;) edit()=-104 text(c39) edit()=FULL"),
            new Edge("17 of the first edit for which it is so",
                FILM + "text(j9;c99) edit()=UNKNOWN text(c99;j9) edit()=BAD text(j1;c99) edit()=NOT "
                    + "text(c0;c3;j2;o9) edit()=NOT"),
            new Edge("17 when its turn comes",
                FILM + "text(o0;o0;o0) edit()=UNKNOWN text(o0;o0;c0) edit()=BAD text(c5;j2) edit()=NOT "
                    + "text(j0) edit()=NOT text(c5;j0) edit()=2",
                FILM + "text(i0,0;o0) edit()=UNKNOWN text(o0;i0,2) edit()=BAD text(o0;i0,1) edit()=2",
                FilmEdges.FULL_REEL + "text(i0,0) edit()=FULL text(j3;i0,0) edit()=2",
                FilmEdges.FULL_CAN + "text(o0) edit()=FULL text(i0,0;o0) edit()=2"),
            new Edge("17 the error that its method returns",
                FILM + "text(c12) edit()=BAD text(j2) edit()=UNKNOWN text(j1) edit()=NOT text(o2) edit()=UNKNOWN "
                    + "text(i0,0) edit()=UNKNOWN",
                FILM + "text(m2,0) edit()=UNKNOWN text(m0,2) edit()=UNKNOWN text(m2,2) edit()=UNKNOWN",
                FilmEdges.TWENTY + "text(c20) edit()=FULL text(c40) edit()=BAD",
                FilmEdges.FULL_REEL + "text(i0,21) edit()=BAD text(i1,21) edit()=UNKNOWN"));
    }
}
