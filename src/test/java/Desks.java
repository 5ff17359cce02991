/** Desks for tests to begin with. */
final class Desks {
    static final int INPUT = 0;
    static final int OUTPUT = 1;
    static final int PASSIVE = 2;
    static final int POWER = 3;

    private Desks() {
    }

    /** So many passive pins, and nothing else. */
    static BoardDesk withPins(int count) {
        BoardDesk desk = new BoardDesk();
        for (int p = 0; p < count; p++) {
            desk.pin(PASSIVE);
        }
        return desk;
    }

    static BoardDesk withKinds(int... kinds) {
        BoardDesk desk = new BoardDesk();
        for (int kind : kinds) {
            desk.pin(kind);
        }
        return desk;
    }

    /** Two joined pins, placed. */
    static BoardDesk pair(int x0, int y0, int layers0, int x1, int y1, int layers1) {
        BoardDesk desk = withPins(2);
        desk.join(0, 1);
        desk.place(0, x0, y0, layers0);
        desk.place(1, x1, y1, layers1);
        return desk;
    }

    /**
     * Something of everything, by 15 changes: so one more can be made and none is lost. Net 0 has
     * pins 0 and 1 and cells 0 to 5 and 120, net 2 pins 2 and 3 and cells 180 and 119, not of one
     * piece; net 4 has no pad, but copper in cells 64 to 67; cell 100 is barred, the clearance 2,
     * and five bytes were read.
     */
    static BoardDesk busy() {
        BoardDesk desk = withKinds(OUTPUT, INPUT, PASSIVE, POWER, INPUT);
        desk.join(0, 1);
        desk.join(3, 2);
        desk.place(0, 0, 0, 3);
        desk.place(1, 5, 0, 1);
        desk.place(2, 0, 5, 2);
        desk.place(3, 11, 9, 1);
        desk.route(0);
        desk.track(4, 64, 0, 3);
        desk.bar(100, true);
        desk.rule(2);
        readAll(desk, 0, 0, 6, 1, 9);
        return desk;
    }

    /** The same after more changes than can be taken back. */
    static BoardDesk crowded() {
        BoardDesk desk = busy();
        desk.bar(220, true);
        desk.erase(3);
        desk.join(4, 2);
        desk.lift(1);
        return desk;
    }

    static void readAll(BoardDesk desk, int... bytes) {
        for (int value : bytes) {
            desk.read(value);
        }
    }
}
