/** Desks for tests to begin with. */
final class Desks {
    private static final int PASSIVE = 2;

    private Desks() {
    }

    /** So many passive pins, and nothing else. */
    static BoardDesk withPins(int count) {
        BoardDesk desk = new BoardDesk();
        for (int p = 0; p < count; p++) {
            desk.pin(PASSIVE);
        }
        return desk;
    }
}
