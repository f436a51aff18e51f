/** The calls of the document, which HoleReel (by way of Played) and Model both answer. */
interface Face {
    int addScene(int kind, int frames);

    int cut(int position);

    int join(int piece);

    int takeOut(int piece);

    int putIn(int piece, int at);

    int move(int piece, int to);

    int tear(int scene, int frame, int hole);

    int patch(int scene, int frame);

    int splice(int piece);

    int dislike(int kind, boolean is);

    int set(int what, int value);

    int run();

    int addWitness(int show, int from, int to);

    int type(char character);

    int clearText();

    int edit();

    int undo();

    int keep();

    int restore();

    int scene(int scene, int what);

    int piece(int piece, int what);

    int canned(int piece, int what);

    int frameAt(int position);

    int frame(int scene, int frame, int what);

    int show(int show, int what);

    int seen(int show, int unit);

    int witness(int witness, int what);

    int saw(int witness, int scene);

    int differ(int witness, int other);

    int next(int what);

    int count(int what);
}
