/** A film on a reel, counted by its holes, and the shows that a projectionist gives of it. */
public final class HoleReel {
    public static final int UNKNOWN = -1;
    public static final int BAD_VALUE = -2;
    public static final int FULL = -3;
    public static final int NOT_POSSIBLE = -4;
    public static final int NONE = -5;

    private static final int MAX_SCENES = 12;
    private static final int MAX_FRAMES = 40;
    private static final int ALL_FRAMES = MAX_SCENES * MAX_FRAMES;
    private static final int KINDS = 6;
    private static final int HOLES = 4;
    private static final int ALL_TORN = 15;
    private static final int HOLES_TO_BE_SHOWN = 2;
    private static final int PASSES_TO_A_TEAR = 3;
    private static final int MAX_PIECES = 20;
    private static final int MAX_SHOWS = 10;
    private static final int MAX_WITNESSES = 8;
    private static final int MAX_STATES = 4;
    private static final int MAX_TEXT = 60;
    /** The shortest edit has two characters, and one more parts it from the next. */
    private static final int MAX_EDITS = (MAX_TEXT + 1) / 3;
    private static final int MAX_DIGITS = 3;
    private static final int NO_FAULT = -1;
    private static final int FAULT_BASE = -100;
    private static final int SCENE_FACTOR = 100;

    private static final int ENERGY = 0;
    private static final int LIMIT = 1;
    private static final int MAX_SETTING = 20;
    private static final int FIRST_ENERGY = 3;
    private static final int FIRST_LIMIT = 5;

    private static final int TOOK = 0;
    private static final int SHOWN = 1;
    private static final int SLIPPED = 2;
    private static final int WOUND = 3;
    private static final int COUNTER = 4;
    private static final int LOSS = 5;
    private static final int ENDED_AT = 6;
    private static final int WOUND_PIECES = 7;
    private static final int SHOW_NUMBERS = 8;

    private static final int LAST_SCENE_WHAT = 5;
    private static final int LAST_PIECE_WHAT = 4;
    private static final int LAST_CANNED_WHAT = 2;
    private static final int LAST_FRAME_WHAT = 3;
    private static final int LAST_WITNESS_WHAT = 5;

    private final Film film = new Film();
    private final Film snapshot = new Film();
    private final History history = new History();
    private final EditText text = new EditText();
    /** Edits are tried here first, so that a refused one leaves the film as it was. */
    private final Bench trial = new Bench();
    private final Show preview = new Show();
    private boolean hasSnapshot;

    public HoleReel() {
    }

    // ---- film

    public int addScene(int kind, int frames) {
        if (!isWithin(kind, 0, KINDS - 1) || !isWithin(frames, 1, MAX_FRAMES)) {
            return BAD_VALUE;
        }
        if (film.stock.scenes >= MAX_SCENES || film.bench.reel.isFull()) {
            return FULL;
        }
        history.record(film);
        int scene = film.stock.append(kind, frames);
        film.bench.reel.putAt(film.bench.reel.pieces, scene, 0, frames - 1);
        return scene;
    }

    public int cut(int position) {
        return editOnce('c', position, 0);
    }

    public int join(int piece) {
        return editOnce('j', piece, 0);
    }

    public int takeOut(int piece) {
        return editOnce('o', piece, 0);
    }

    public int putIn(int piece, int at) {
        return editOnce('i', piece, at);
    }

    public int move(int piece, int to) {
        return editOnce('m', piece, to);
    }

    public int tear(int scene, int frame, int hole) {
        Stock stock = film.stock;
        if (!stock.hasFrame(scene, frame)) {
            return UNKNOWN;
        }
        if (!isWithin(hole, 0, HOLES - 1)) {
            return BAD_VALUE;
        }
        int slot = slotOf(scene, frame);
        if ((stock.torn[slot] >> hole & 1) == 1) {
            return NONE;
        }
        history.record(film);
        stock.torn[slot] |= 1 << hole;
        return stock.goodHoles(slot);
    }

    public int patch(int scene, int frame) {
        Stock stock = film.stock;
        if (!stock.hasFrame(scene, frame)) {
            return UNKNOWN;
        }
        int slot = slotOf(scene, frame);
        int torn = Integer.bitCount(stock.torn[slot]);
        if (torn == 0) {
            return NONE;
        }
        history.record(film);
        stock.torn[slot] = 0;
        return torn;
    }

    public int splice(int piece) {
        PieceRow reel = film.bench.reel;
        if (!reel.has(piece)) {
            return UNKNOWN;
        }
        int passes = reel.splices[piece];
        if (passes == 0) {
            return NONE;
        }
        history.record(film);
        reel.splices[piece] = 0;
        return passes;
    }

    // ---- shows

    public int dislike(int kind, boolean is) {
        if (!isWithin(kind, 0, KINDS - 1)) {
            return BAD_VALUE;
        }
        if (film.dislikes(kind) == is) {
            return NONE;
        }
        history.record(film);
        film.disliked ^= 1 << kind;
        return Integer.bitCount(film.disliked);
    }

    public int set(int what, int value) {
        if (what != ENERGY && what != LIMIT) {
            return BAD_VALUE;
        }
        int lowest = what == ENERGY ? 0 : 1;
        if (!isWithin(value, lowest, MAX_SETTING)) {
            return BAD_VALUE;
        }
        int previous = what == ENERGY ? film.energy : film.limit;
        if (previous == value) {
            return NONE;
        }
        history.record(film);
        if (what == ENERGY) {
            film.energy = value;
        } else {
            film.limit = value;
        }
        return previous;
    }

    public int run() {
        if (film.bench.reel.pieces == 0) {
            return NOT_POSSIBLE;
        }
        if (film.showsRun >= MAX_SHOWS) {
            return FULL;
        }
        history.record(film);
        return film.giveShow();
    }

    public int addWitness(int show, int from, int to) {
        if (!film.hasShow(show)) {
            return UNKNOWN;
        }
        if (from < 0 || to <= from || to > film.shows[show].numbers[TOOK]) {
            return BAD_VALUE;
        }
        if (film.witnesses.people >= MAX_WITNESSES) {
            return FULL;
        }
        history.record(film);
        return film.witnesses.append(show, from, to);
    }

    // ---- texts

    public int type(char character) {
        if (text.length >= MAX_TEXT) {
            return FULL;
        }
        text.append(character);
        return text.length;
    }

    public int clearText() {
        int length = text.length;
        text.length = 0;
        return length;
    }

    public int edit() {
        int fault = text.readEdits();
        if (fault != NO_FAULT) {
            return FAULT_BASE - fault;
        }
        trial.copyFrom(film.bench);
        for (int i = 0; i < text.edits; i++) {
            int answer = trial.perform(text.verbs[i], text.firsts[i], text.seconds[i]);
            if (answer < 0 && answer != NONE) {
                return answer;
            }
        }
        takeOverTrial();
        return text.edits;
    }

    // ---- history

    public int undo() {
        if (history.states == 0) {
            return NONE;
        }
        history.giveBack(film);
        return history.states;
    }

    public int keep() {
        snapshot.copyFrom(film);
        hasSnapshot = true;
        return film.bench.reel.pieces;
    }

    public int restore() {
        if (!hasSnapshot) {
            return NONE;
        }
        history.record(film);
        film.copyFrom(snapshot);
        return film.bench.reel.pieces;
    }

    // ---- what is told

    public int scene(int scene, int what) {
        if (!film.stock.hasScene(scene)) {
            return UNKNOWN;
        }
        if (!isWithin(what, 0, LAST_SCENE_WHAT)) {
            return BAD_VALUE;
        }
        Bench bench = film.bench;
        switch (what) {
            case 0:
                return film.stock.kinds[scene];
            case 1:
                return film.stock.lengths[scene];
            case 2:
                return bench.reel.framesOf(scene);
            case 3:
                return bench.reel.piecesOf(scene) + bench.can.piecesOf(scene);
            case 4:
                return film.stock.tornHolesOf(scene);
            default:
                return bench.reel.isInOrder(scene) ? 1 : 0;
        }
    }

    public int piece(int piece, int what) {
        PieceRow reel = film.bench.reel;
        if (!reel.has(piece)) {
            return UNKNOWN;
        }
        if (!isWithin(what, 0, LAST_PIECE_WHAT)) {
            return BAD_VALUE;
        }
        switch (what) {
            case 3:
                return reel.startOf(piece);
            case 4:
                return reel.splices[piece];
            default:
                return reel.tell(piece, what);
        }
    }

    public int canned(int piece, int what) {
        PieceRow can = film.bench.can;
        if (!can.has(piece)) {
            return UNKNOWN;
        }
        if (!isWithin(what, 0, LAST_CANNED_WHAT)) {
            return BAD_VALUE;
        }
        return can.tell(piece, what);
    }

    public int frameAt(int position) {
        PieceRow reel = film.bench.reel;
        if (position < 0) {
            return BAD_VALUE;
        }
        int piece = reel.pieceAt(position);
        if (!reel.has(piece)) {
            return NONE;
        }
        return codeOf(reel.scenes[piece], reel.firsts[piece] + position - reel.startOf(piece));
    }

    public int frame(int scene, int frame, int what) {
        Stock stock = film.stock;
        if (!stock.hasFrame(scene, frame)) {
            return UNKNOWN;
        }
        if (!isWithin(what, 0, LAST_FRAME_WHAT)) {
            return BAD_VALUE;
        }
        int slot = slotOf(scene, frame);
        switch (what) {
            case 0:
                return film.bench.reel.positionOf(scene, frame);
            case 1:
                return stock.torn[slot];
            case 2:
                return stock.passes[slot];
            default:
                return stock.goodHoles(slot) >= HOLES_TO_BE_SHOWN ? 1 : 0;
        }
    }

    public int show(int show, int what) {
        if (!film.hasShow(show)) {
            return UNKNOWN;
        }
        if (!isWithin(what, 0, SHOW_NUMBERS - 1)) {
            return BAD_VALUE;
        }
        return film.shows[show].numbers[what];
    }

    public int seen(int show, int unit) {
        if (!film.hasShow(show)) {
            return UNKNOWN;
        }
        if (!film.shows[show].hasUnit(unit)) {
            return BAD_VALUE;
        }
        return film.shows[show].units[unit];
    }

    public int witness(int witness, int what) {
        Witnesses row = film.witnesses;
        if (!row.has(witness)) {
            return UNKNOWN;
        }
        if (!isWithin(what, 0, LAST_WITNESS_WHAT)) {
            return BAD_VALUE;
        }
        int from = row.froms[witness];
        int to = row.tos[witness];
        Show visited = film.shows[row.visits[witness]];
        switch (what) {
            case 0:
                return row.visits[witness];
            case 1:
                return from;
            case 2:
                return to;
            case 3:
                return visited.shownWithin(from, to);
            case 4:
                return to - from - visited.shownWithin(from, to);
            default:
                return visited.scenesWithin(from, to);
        }
    }

    public int saw(int witness, int scene) {
        Witnesses row = film.witnesses;
        if (!row.has(witness) || !film.stock.hasScene(scene)) {
            return UNKNOWN;
        }
        Show visited = film.shows[row.visits[witness]];
        return visited.framesWithin(scene, row.froms[witness], row.tos[witness]);
    }

    public int differ(int witness, int other) {
        Witnesses row = film.witnesses;
        if (!row.has(witness) || !row.has(other)) {
            return UNKNOWN;
        }
        if (row.visits[witness] != row.visits[other]) {
            return NOT_POSSIBLE;
        }
        Show visited = film.shows[row.visits[witness]];
        int ones = visited.scenesWithin(row.froms[witness], row.tos[witness]);
        int others = visited.scenesWithin(row.froms[other], row.tos[other]);
        return Integer.bitCount(ones ^ others);
    }

    public int next(int what) {
        if (!isWithin(what, 0, SHOW_NUMBERS - 1)) {
            return BAD_VALUE;
        }
        if (film.bench.reel.pieces == 0) {
            return NOT_POSSIBLE;
        }
        film.project(preview);
        return preview.numbers[what];
    }

    public int count(int what) {
        Bench bench = film.bench;
        switch (what) {
            case 0:
                return film.stock.scenes;
            case 1:
                return bench.reel.pieces;
            case 2:
                return bench.can.pieces;
            case 3:
                return bench.reel.allFrames();
            case 4:
                return bench.can.allFrames();
            case 5:
                return film.showsRun;
            case 6:
                return film.witnesses.people;
            case 7:
                return film.disliked;
            case 8:
                return film.energy;
            case 9:
                return film.limit;
            case 10:
                return film.stock.allTornHoles();
            case 11:
                return bench.reel.splicesFrom(film.limit);
            case 12:
                return history.states;
            case 13:
                return text.length;
            default:
                return BAD_VALUE;
        }
    }

    private int editOnce(int verb, int first, int second) {
        trial.copyFrom(film.bench);
        int answer = trial.perform(verb, first, second);
        if (answer >= 0) {
            takeOverTrial();
        }
        return answer;
    }

    private void takeOverTrial() {
        history.record(film);
        film.bench.copyFrom(trial);
    }

    private static boolean isWithin(int value, int lowest, int highest) {
        return value >= lowest && value <= highest;
    }

    private static int slotOf(int scene, int frame) {
        return scene * MAX_FRAMES + frame;
    }

    private static int codeOf(int scene, int frame) {
        return SCENE_FACTOR * scene + frame;
    }

    /** A row of pieces, on the reel or in the can (where the splices play no part). */
    private static final class PieceRow {
        int pieces;
        final int[] scenes = new int[MAX_PIECES];
        final int[] firsts = new int[MAX_PIECES];
        final int[] lasts = new int[MAX_PIECES];
        final int[] splices = new int[MAX_PIECES];

        void copyFrom(PieceRow other) {
            pieces = other.pieces;
            System.arraycopy(other.scenes, 0, scenes, 0, MAX_PIECES);
            System.arraycopy(other.firsts, 0, firsts, 0, MAX_PIECES);
            System.arraycopy(other.lasts, 0, lasts, 0, MAX_PIECES);
            System.arraycopy(other.splices, 0, splices, 0, MAX_PIECES);
        }

        boolean has(int piece) {
            return piece >= 0 && piece < pieces;
        }

        boolean isFull() {
            return pieces >= MAX_PIECES;
        }

        int tell(int piece, int what) {
            switch (what) {
                case 0:
                    return scenes[piece];
                case 1:
                    return firsts[piece];
                default:
                    return lasts[piece];
            }
        }

        int lengthOf(int piece) {
            return lasts[piece] - firsts[piece] + 1;
        }

        int startOf(int piece) {
            int start = 0;
            for (int i = 0; i < piece && i < pieces; i++) {
                start += lengthOf(i);
            }
            return start;
        }

        int allFrames() {
            return startOf(pieces);
        }

        /** The piece that a position is in, or NONE. */
        int pieceAt(int position) {
            int end = 0;
            for (int i = 0; i < pieces; i++) {
                end += lengthOf(i);
                if (position < end) {
                    return i;
                }
            }
            return NONE;
        }

        int positionOf(int scene, int frame) {
            int start = 0;
            for (int i = 0; i < pieces; i++) {
                if (scenes[i] == scene && isWithin(frame, firsts[i], lasts[i])) {
                    return start + frame - firsts[i];
                }
                start += lengthOf(i);
            }
            return NONE;
        }

        int framesOf(int scene) {
            int frames = 0;
            for (int i = 0; i < pieces; i++) {
                frames += scenes[i] == scene ? lengthOf(i) : 0;
            }
            return frames;
        }

        int piecesOf(int scene) {
            int found = 0;
            for (int i = 0; i < pieces; i++) {
                found += scenes[i] == scene ? 1 : 0;
            }
            return found;
        }

        boolean isInOrder(int scene) {
            int latest = -1;
            for (int i = 0; i < pieces; i++) {
                if (scenes[i] == scene) {
                    if (firsts[i] < latest) {
                        return false;
                    }
                    latest = lasts[i];
                }
            }
            return true;
        }

        int splicesFrom(int limit) {
            int found = 0;
            for (int i = 1; i < pieces; i++) {
                found += splices[i] >= limit ? 1 : 0;
            }
            return found;
        }

        boolean goesOn(int piece) {
            return has(piece) && has(piece + 1)
                    && scenes[piece] == scenes[piece + 1]
                    && lasts[piece] + 1 == firsts[piece + 1];
        }

        /** Puts a piece in without a look at the splice behind it: behind a cut that one stays. */
        void insert(int at, int scene, int first, int last) {
            if (isFull() || !isWithin(at, 0, pieces)) {
                return;
            }
            for (int i = pieces; i > at; i--) {
                copyPiece(i - 1, i);
            }
            scenes[at] = scene;
            firsts[at] = first;
            lasts[at] = last;
            splices[at] = 0;
            pieces++;
        }

        /** Drops a piece without a look at the splice behind it: behind a join that one stays. */
        void drop(int at) {
            if (!has(at)) {
                return;
            }
            for (int i = at + 1; i < pieces; i++) {
                copyPiece(i, i - 1);
            }
            pieces--;
        }

        void putAt(int at, int scene, int first, int last) {
            insert(at, scene, first, last);
            renewSplice(at + 1);
        }

        void pullFrom(int at) {
            drop(at);
            renewSplice(at);
        }

        private void renewSplice(int piece) {
            if (has(piece)) {
                splices[piece] = 0;
            }
        }

        private void copyPiece(int from, int to) {
            scenes[to] = scenes[from];
            firsts[to] = firsts[from];
            lasts[to] = lasts[from];
            splices[to] = splices[from];
        }
    }

    /** Where the film is cut and joined: the reel and the can. */
    private static final class Bench {
        final PieceRow reel = new PieceRow();
        final PieceRow can = new PieceRow();

        void copyFrom(Bench other) {
            reel.copyFrom(other.reel);
            can.copyFrom(other.can);
        }

        int perform(int verb, int first, int second) {
            switch (verb) {
                case 'c':
                    return cutAhead(first);
                case 'j':
                    return joinBehind(first);
                case 'o':
                    return toCan(first);
                case 'i':
                    return fromCan(first, second);
                default:
                    return renumber(first, second);
            }
        }

        private int cutAhead(int position) {
            if (position < 0) {
                return BAD_VALUE;
            }
            int piece = reel.pieceAt(position);
            if (!reel.has(piece)) {
                return BAD_VALUE;
            }
            int offset = position - reel.startOf(piece);
            if (offset == 0) {
                return NONE;
            }
            if (reel.isFull()) {
                return FULL;
            }
            int begin = reel.firsts[piece] + offset;
            reel.insert(piece + 1, reel.scenes[piece], begin, reel.lasts[piece]);
            reel.lasts[piece] = begin - 1;
            return piece + 1;
        }

        private int joinBehind(int piece) {
            if (!reel.has(piece)) {
                return UNKNOWN;
            }
            if (!reel.goesOn(piece)) {
                return NOT_POSSIBLE;
            }
            reel.lasts[piece] = reel.lasts[piece + 1];
            reel.drop(piece + 1);
            return reel.lengthOf(piece);
        }

        private int toCan(int piece) {
            if (!reel.has(piece)) {
                return UNKNOWN;
            }
            if (can.isFull()) {
                return FULL;
            }
            can.insert(can.pieces, reel.scenes[piece], reel.firsts[piece], reel.lasts[piece]);
            reel.pullFrom(piece);
            return reel.pieces;
        }

        private int fromCan(int piece, int at) {
            if (!can.has(piece)) {
                return UNKNOWN;
            }
            if (!isWithin(at, 0, reel.pieces)) {
                return BAD_VALUE;
            }
            if (reel.isFull()) {
                return FULL;
            }
            reel.putAt(at, can.scenes[piece], can.firsts[piece], can.lasts[piece]);
            can.drop(piece);
            return can.pieces;
        }

        private int renumber(int piece, int to) {
            if (!reel.has(piece) || !reel.has(to)) {
                return UNKNOWN;
            }
            if (piece == to) {
                return NONE;
            }
            int scene = reel.scenes[piece];
            int first = reel.firsts[piece];
            int last = reel.lasts[piece];
            reel.pullFrom(piece);
            reel.putAt(to, scene, first, last);
            return reel.startOf(to);
        }
    }

    /** The scenes and the wear of their frames, wherever these are. */
    private static final class Stock {
        int scenes;
        final int[] kinds = new int[MAX_SCENES];
        final int[] lengths = new int[MAX_SCENES];
        final int[] torn = new int[ALL_FRAMES];
        final int[] passes = new int[ALL_FRAMES];

        void copyFrom(Stock other) {
            scenes = other.scenes;
            System.arraycopy(other.kinds, 0, kinds, 0, MAX_SCENES);
            System.arraycopy(other.lengths, 0, lengths, 0, MAX_SCENES);
            System.arraycopy(other.torn, 0, torn, 0, ALL_FRAMES);
            System.arraycopy(other.passes, 0, passes, 0, ALL_FRAMES);
        }

        boolean hasScene(int scene) {
            return scene >= 0 && scene < scenes;
        }

        boolean hasFrame(int scene, int frame) {
            return hasScene(scene) && frame >= 0 && frame < lengths[scene];
        }

        int append(int kind, int frames) {
            int scene = scenes;
            if (scene < MAX_SCENES) {
                kinds[scene] = kind;
                lengths[scene] = frames;
                scenes++;
            }
            return scene;
        }

        int goodHoles(int slot) {
            return HOLES - Integer.bitCount(torn[slot]);
        }

        int tornHolesOf(int scene) {
            int found = 0;
            for (int frame = 0; frame < lengths[scene]; frame++) {
                found += Integer.bitCount(torn[slotOf(scene, frame)]);
            }
            return found;
        }

        int allTornHoles() {
            int found = 0;
            for (int scene = 0; scene < scenes; scene++) {
                found += tornHolesOf(scene);
            }
            return found;
        }

        void wear(int slot) {
            passes[slot]++;
            boolean isDamaged = torn[slot] != 0 && torn[slot] != ALL_TORN;
            if (isDamaged && passes[slot] % PASSES_TO_A_TEAR == 0) {
                torn[slot] |= Integer.lowestOneBit(~torn[slot]);
            }
        }
    }

    /** What is known of a show: its numbers, and for each unit the frame shown or NONE. */
    private static final class Show {
        final int[] numbers = new int[SHOW_NUMBERS];
        final int[] units = new int[ALL_FRAMES];

        void copyFrom(Show other) {
            System.arraycopy(other.numbers, 0, numbers, 0, SHOW_NUMBERS);
            System.arraycopy(other.units, 0, units, 0, ALL_FRAMES);
        }

        void begin() {
            for (int i = 0; i < SHOW_NUMBERS; i++) {
                numbers[i] = 0;
            }
            numbers[ENDED_AT] = NONE;
        }

        void countHoles(int good, int counted) {
            numbers[COUNTER] += counted;
            numbers[LOSS] += good - counted;
        }

        void addUnit(int code) {
            int unit = numbers[TOOK];
            if (unit >= 0 && unit < ALL_FRAMES) {
                units[unit] = code;
                numbers[TOOK] = unit + 1;
            }
        }

        boolean hasUnit(int unit) {
            return unit >= 0 && unit < numbers[TOOK] && unit < ALL_FRAMES;
        }

        int shownWithin(int from, int to) {
            int found = 0;
            for (int unit = from; unit < to && hasUnit(unit); unit++) {
                found += units[unit] != NONE ? 1 : 0;
            }
            return found;
        }

        int framesWithin(int scene, int from, int to) {
            int found = 0;
            for (int unit = from; unit < to && hasUnit(unit); unit++) {
                found += units[unit] != NONE && units[unit] / SCENE_FACTOR == scene ? 1 : 0;
            }
            return found;
        }

        int scenesWithin(int from, int to) {
            int bits = 0;
            for (int unit = from; unit < to && hasUnit(unit); unit++) {
                if (units[unit] != NONE) {
                    bits |= 1 << units[unit] / SCENE_FACTOR;
                }
            }
            return bits;
        }
    }

    /** Who was at which show, and from which unit of time up to which. */
    private static final class Witnesses {
        int people;
        final int[] visits = new int[MAX_WITNESSES];
        final int[] froms = new int[MAX_WITNESSES];
        final int[] tos = new int[MAX_WITNESSES];

        void copyFrom(Witnesses other) {
            people = other.people;
            System.arraycopy(other.visits, 0, visits, 0, MAX_WITNESSES);
            System.arraycopy(other.froms, 0, froms, 0, MAX_WITNESSES);
            System.arraycopy(other.tos, 0, tos, 0, MAX_WITNESSES);
        }

        boolean has(int witness) {
            return witness >= 0 && witness < people;
        }

        int append(int show, int from, int to) {
            int witness = people;
            if (witness < MAX_WITNESSES) {
                visits[witness] = show;
                froms[witness] = from;
                tos[witness] = to;
                people++;
            }
            return witness;
        }
    }

    /** A state: all that undo and the snapshot bring back. */
    private static final class Film {
        final Stock stock = new Stock();
        final Bench bench = new Bench();
        final Show[] shows = new Show[MAX_SHOWS];
        final Witnesses witnesses = new Witnesses();
        int showsRun;
        int disliked;
        int energy = FIRST_ENERGY;
        int limit = FIRST_LIMIT;

        Film() {
            for (int i = 0; i < MAX_SHOWS; i++) {
                shows[i] = new Show();
            }
        }

        void copyFrom(Film other) {
            stock.copyFrom(other.stock);
            bench.reel.copyFrom(other.bench.reel);
            bench.can.copyFrom(other.bench.can);
            witnesses.copyFrom(other.witnesses);
            showsRun = other.showsRun;
            disliked = other.disliked;
            energy = other.energy;
            limit = other.limit;
            for (int i = 0; i < showsRun && i < MAX_SHOWS; i++) {
                shows[i].copyFrom(other.shows[i]);
            }
        }

        boolean hasShow(int show) {
            return show >= 0 && show < showsRun;
        }

        boolean dislikes(int kind) {
            return (disliked >> kind & 1) == 1;
        }

        int giveShow() {
            int show = showsRun;
            if (show < MAX_SHOWS) {
                project(shows[show]);
                wearDown(shows[show].numbers[ENDED_AT]);
                showsRun++;
            }
            return show;
        }

        /**
         * Tells a show without any wear. A frame and a splice go through only once in a show, so
         * that the wear of a show never plays a part in the show itself.
         */
        void project(Show show) {
            show.begin();
            int left = energy;
            for (int piece = 0; piece < bench.reel.pieces; piece++) {
                if (piece > 0 && bench.reel.splices[piece] >= limit) {
                    show.numbers[ENDED_AT] = piece;
                    return;
                }
                if (left > 0 && dislikes(stock.kinds[bench.reel.scenes[piece]])) {
                    left--;
                    wind(show, piece);
                } else {
                    play(show, piece);
                }
            }
        }

        private void wind(Show show, int piece) {
            PieceRow reel = bench.reel;
            for (int frame = reel.firsts[piece]; frame <= reel.lasts[piece]; frame++) {
                int good = stock.goodHoles(slotOf(reel.scenes[piece], frame));
                show.countHoles(good, good / 2);
                show.numbers[WOUND]++;
            }
            int dark = (reel.lengthOf(piece) + 3) / 4;
            for (int i = 0; i < dark; i++) {
                show.addUnit(NONE);
            }
            show.numbers[WOUND_PIECES]++;
        }

        private void play(Show show, int piece) {
            PieceRow reel = bench.reel;
            int scene = reel.scenes[piece];
            for (int frame = reel.firsts[piece]; frame <= reel.lasts[piece]; frame++) {
                int good = stock.goodHoles(slotOf(scene, frame));
                boolean isShown = good >= HOLES_TO_BE_SHOWN;
                show.countHoles(good, good);
                show.numbers[isShown ? SHOWN : SLIPPED]++;
                show.addUnit(isShown ? codeOf(scene, frame) : NONE);
            }
        }

        /** The splice at which a show ended was passed too, but not the piece behind it. */
        private void wearDown(int endedAt) {
            PieceRow reel = bench.reel;
            int through = endedAt == NONE ? reel.pieces : endedAt;
            for (int piece = 0; piece < through; piece++) {
                for (int frame = reel.firsts[piece]; frame <= reel.lasts[piece]; frame++) {
                    stock.wear(slotOf(reel.scenes[piece], frame));
                }
            }
            for (int piece = 1; piece <= through && piece < reel.pieces; piece++) {
                reel.splices[piece]++;
            }
        }
    }

    /** The latest states, in a ring: a new one takes the place of the oldest when all are used. */
    private static final class History {
        int states;
        private int top;
        private final Film[] ring = new Film[MAX_STATES];

        History() {
            for (int i = 0; i < MAX_STATES; i++) {
                ring[i] = new Film();
            }
        }

        void record(Film film) {
            ring[top].copyFrom(film);
            top = (top + 1) % MAX_STATES;
            states = Math.min(states + 1, MAX_STATES);
        }

        void giveBack(Film film) {
            if (states > 0) {
                top = (top + MAX_STATES - 1) % MAX_STATES;
                film.copyFrom(ring[top]);
                states--;
            }
        }
    }

    /** The text, and the edits that were read from it last. */
    private static final class EditText {
        int length;
        int edits;
        final int[] verbs = new int[MAX_EDITS];
        final int[] firsts = new int[MAX_EDITS];
        final int[] seconds = new int[MAX_EDITS];
        private final char[] characters = new char[MAX_TEXT];
        /** How far the reading has come: at a fault, its index. */
        private int place;
        private int number;

        void append(char character) {
            if (length < MAX_TEXT) {
                characters[length] = character;
                length++;
            }
        }

        /** Reads all edits; the answer is the fault of the text, or NO_FAULT. */
        int readEdits() {
            edits = 0;
            place = 0;
            boolean isRight = readEdit();
            for (int i = 0; i < MAX_TEXT && isRight && place < length; i++) {
                isRight = readSign(';') && readEdit();
            }
            return isRight ? NO_FAULT : place;
        }

        private boolean readEdit() {
            int verb = signHere();
            boolean hasTwo = verb == 'i' || verb == 'm';
            if (!hasTwo && verb != 'c' && verb != 'j' && verb != 'o') {
                return false;
            }
            place++;
            if (!readNumber()) {
                return false;
            }
            int first = number;
            if (hasTwo && !(readSign(',') && readNumber())) {
                return false;
            }
            addEdit(verb, first, hasTwo ? number : 0);
            return true;
        }

        private void addEdit(int verb, int first, int second) {
            if (edits < MAX_EDITS) {
                verbs[edits] = verb;
                firsts[edits] = first;
                seconds[edits] = second;
                edits++;
            }
        }

        private boolean readSign(int sign) {
            if (signHere() != sign) {
                return false;
            }
            place++;
            return true;
        }

        /** Behind a zero in front no digit is read, so that one there is a fault at its place. */
        private boolean readNumber() {
            if (!isDigitHere()) {
                return false;
            }
            number = 0;
            int most = signHere() == '0' ? 1 : MAX_DIGITS;
            for (int i = 0; i < most && isDigitHere(); i++) {
                number = number * 10 + signHere() - '0';
                place++;
            }
            return true;
        }

        private boolean isDigitHere() {
            return isWithin(signHere(), '0', '9');
        }

        private int signHere() {
            return place < length && place < MAX_TEXT ? characters[place] : NONE;
        }
    }
}
