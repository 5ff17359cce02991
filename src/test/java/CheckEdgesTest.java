import java.util.function.Supplier;

/** Promise 17, sentence by sentence: check, and the faults of the board. */
public final class CheckEdgesTest {
    private static final int NONE = -1;
    private static final int OPEN = 1;
    private static final int NEAR = 2;

    private static final Supplier<BoardDesk> NEW = BoardDesk::new;
    private static final Supplier<BoardDesk> BUSY = Desks::busy;
    private static final Supplier<BoardDesk> BOTH = CheckEdgesTest::openAndNear;

    private static final Edges edges = new Edges();
    private static final Due due = edges.due;

    public static void main(String[] args) {
        answers();
        open();
        near();
        edges.finish();
    }

    private static void answers() {
        edges.holds("17: OPEN: the net, the pin that is missing, NONE", CheckEdgesTest::openTold);
        edges.holds("17: NEAR: the lesser net, the greater, the cell", CheckEdgesTest::nearTold);
        edges.holds("17: NONE when there is none: a new object", CheckEdgesTest::noneNew);
        edges.holds("17: NONE when there is none: k", CheckEdgesTest::noneSuch);
        edges.holds("17: NONE for another what", CheckEdgesTest::anotherWhat);
        edges.holds("Terms: first OPEN, then NEAR", CheckEdgesTest::openFirst);
    }

    private static void open() {
        edges.holds("Terms: OPEN: the placed pins, fewer than two", CheckEdgesTest::openFewPlaced);
        edges.holds("Terms: OPEN: not all of one piece", CheckEdgesTest::openPieces);
        edges.holds("Terms: OPEN: copper by itself is not", CheckEdgesTest::openLooseCopper);
        edges.holds("Terms: OPEN: neighbours don't wrap around", CheckEdgesTest::openNoWrap);
        edges.holds("Terms: OPEN: one for a net, net by net", CheckEdgesTest::openNetByNet);
    }

    private static void near() {
        edges.holds("Terms: NEAR: by no more than clearance 1", () -> nearBy(1));
        edges.holds("Terms: NEAR: by no more than clearance 2", () -> nearBy(2));
        edges.holds("Terms: NEAR: in the same layer", CheckEdgesTest::nearLayers);
        edges.holds("Terms: NEAR: rows don't wrap around", CheckEdgesTest::nearNoWrap);
        edges.holds("Terms: NEAR: for each two nets, in order", CheckEdgesTest::nearOrder);
        edges.holds("Terms: NEAR: for each two of nine nets", CheckEdgesTest::nearAll);
        edges.holds("Terms: NEAR: the first such cell", CheckEdgesTest::nearFirstCell);
        edges.holds("Terms: NEAR: the cell of the lesser net", CheckEdgesTest::nearLesserCell);
        edges.holds("Terms: NEAR: pads and copper alike", CheckEdgesTest::nearCopper);
    }

    private static void fault(String told, BoardDesk desk, int k, int... wanted) {
        for (int what = 0; what < 4; what++) {
            due.same(told + ": check(" + k + ", " + what + ")", desk.check(k, what), wanted[what]);
        }
    }

    private static void noFault(String told, BoardDesk desk, int k) {
        fault(told, desk, k, NONE, NONE, NONE, NONE);
    }

    private static void leaves(Supplier<BoardDesk> maker, int k, int what, int want) {
        edges.leaves("check(" + k + ", " + what + ")", maker, desk -> desk.check(k, what), want);
    }

    /** Nets 0 and 1 are open, by pins 4 and 5, and nets 2 and 3 are near to each other. */
    private static BoardDesk openAndNear() {
        BoardDesk desk = Desks.withPins(6);
        desk.join(0, 4);
        desk.join(1, 5);
        desk.place(2, 5, 5, 1);
        desk.place(3, 7, 6, 1);
        desk.place(0, 0, 0, 1);
        desk.place(4, 3, 0, 1);
        desk.place(1, 0, 0, 2);
        desk.place(5, 3, 0, 2);
        desk.rule(2);
        return desk;
    }

    private static void openTold() {
        int[] wanted = {OPEN, 2, 3, NONE};
        for (int what = 0; what < 4; what++) {
            leaves(BUSY, 0, what, wanted[what]);
        }
        int[] second = {OPEN, 1, 5, NONE};
        for (int what = 0; what < 4; what++) {
            leaves(BOTH, 1, what, second[what]);
        }
    }

    private static void nearTold() {
        int[] wanted = {NEAR, 2, 3, 65};
        for (int what = 0; what < 4; what++) {
            leaves(BOTH, 2, what, wanted[what]);
        }
    }

    private static void noneNew() {
        for (int what = 0; what < 4; what++) {
            leaves(NEW, 0, what, NONE);
        }
    }

    private static void noneSuch() {
        for (int k : new int[] {-1, 3, 16, Edges.LEAST, Edges.GREATEST}) {
            for (int what = 0; what < 4; what++) {
                leaves(BOTH, k, what, NONE);
            }
        }
        noFault("behind the only one", Desks.busy(), 1);
    }

    private static void anotherWhat() {
        for (int what : new int[] {-1, 4, 5, Edges.LEAST, Edges.GREATEST}) {
            leaves(BOTH, 0, what, NONE);
            leaves(BOTH, 2, what, NONE);
        }
    }

    private static void openFirst() {
        BoardDesk desk = openAndNear();
        fault("open", desk, 0, OPEN, 0, 4, NONE);
        fault("open", desk, 1, OPEN, 1, 5, NONE);
        fault("near", desk, 2, NEAR, 2, 3, 65);
        noFault("no more", desk, 3);
        // Here the nets that are near have the lesser names.
        desk = Desks.withPins(4);
        desk.join(2, 3);
        desk.place(0, 5, 5, 1);
        desk.place(1, 7, 6, 1);
        desk.place(2, 0, 0, 1);
        desk.place(3, 3, 0, 1);
        desk.rule(2);
        fault("open all the same", desk, 0, OPEN, 2, 3, NONE);
        fault("then near", desk, 1, NEAR, 0, 1, 65);
        noFault("no more", desk, 2);
    }

    private static void openFewPlaced() {
        BoardDesk desk = Desks.withPins(3);
        desk.join(0, 1);
        desk.join(1, 2);
        noFault("none placed", desk, 0);
        desk.place(2, 0, 0, 3);
        noFault("one placed", desk, 0);
        desk.place(1, 5, 0, 1);
        fault("two placed", desk, 0, OPEN, 0, 2, NONE);
        desk.lift(2);
        noFault("one placed again", desk, 0);
    }

    private static void openPieces() {
        int[][] beside = {{4, 4, 1}, {5, 4, 1}, {6, 4, 1}, {4, 5, 1}, {6, 5, 1}, {4, 6, 1},
            {5, 6, 1}, {6, 6, 1}, {5, 5, 2}};
        for (int[] at : beside) {
            noFault("neighbours", Desks.pair(5, 5, 1, at[0], at[1], at[2]), 0);
        }
        int[][] apart = {{3, 5, 1}, {7, 5, 1}, {5, 3, 1}, {5, 7, 1}, {7, 4, 1}, {6, 5, 2}, {6, 6, 2}};
        for (int[] at : apart) {
            BoardDesk desk = Desks.pair(5, 5, 1, at[0], at[1], at[2]);
            fault("no neighbours", desk, 0, OPEN, 0, 1, NONE);
        }
        // Three pins, of which two and two hold together by copper and by layers.
        BoardDesk desk = Desks.withPins(3);
        desk.join(0, 1);
        desk.join(0, 2);
        desk.place(0, 0, 0, 1);
        desk.place(1, 4, 0, 3);
        desk.place(2, 2, 2, 2);
        desk.track(2, 123, 0, 0);
        desk.track(2, 135, 3, 0);
        fault("pin 1 is missing", desk, 0, OPEN, 0, 1, NONE);
        desk.track(0, 0, 0, 3);
        noFault("of one piece", desk, 0);
        desk.erase(135);
        fault("pin 2 is missing", desk, 0, OPEN, 0, 2, NONE);
    }

    private static void openLooseCopper() {
        BoardDesk desk = Desks.pair(0, 0, 1, 1, 0, 1);
        desk.track(0, 50, 0, 3);
        desk.track(1, 200, 0, 3);
        noFault("copper that leads nowhere", desk, 0);
    }

    private static void openNoWrap() {
        int[][] places = {{11, 0, 1, 0, 1, 1}, {11, 0, 1, 0, 2, 1}, {11, 9, 1, 0, 0, 2},
            {5, 9, 1, 5, 0, 2}, {0, 0, 1, 11, 9, 2}};
        for (int[] at : places) {
            BoardDesk desk = Desks.pair(at[0], at[1], at[2], at[3], at[4], at[5]);
            fault("not of one piece", desk, 0, OPEN, 0, 1, NONE);
        }
    }

    private static void openNetByNet() {
        // Eight nets of two pins each: 15 and 0, 14 and 1, and so on.
        BoardDesk desk = Desks.withPins(16);
        for (int p = 15; p >= 8; p--) {
            desk.join(p, 15 - p);
        }
        for (int p = 0; p < 8; p++) {
            desk.place(p, 0, p, 1 + p % 2);
            desk.place(15 - p, 11, p, 1 + p % 2);
        }
        for (int k = 0; k < 8; k++) {
            fault("net " + k, desk, k, OPEN, k, 15 - k, NONE);
        }
        noFault("no more", desk, 8);
    }

    /** Pins 0 and 1 get pads when they are of one net, so that they can be near when parted. */
    private static BoardDesk parted(int x0, int y0, int layers0, int x1, int y1, int layers1) {
        BoardDesk desk = Desks.pair(x0, y0, layers0, x1, y1, layers1);
        desk.part(0);
        return desk;
    }

    private static void nearBy(int clearance) {
        for (int down = -3; down <= 3; down++) {
            for (int right = -3; right <= 3; right++) {
                if (down == 0 && right == 0) {
                    continue;
                }
                BoardDesk desk = parted(5, 5, 1, 5 + right, 5 + down, 1);
                desk.rule(clearance);
                String told = "off by " + right + ", " + down;
                if (Math.max(Math.abs(down), Math.abs(right)) <= clearance) {
                    fault(told, desk, 0, NEAR, 0, 1, 65);
                } else {
                    noFault(told, desk, 0);
                }
                noFault(told, desk, 1);
            }
        }
    }

    private static void nearLayers() {
        BoardDesk desk = parted(5, 5, 1, 5, 5, 2);
        noFault("below each other", desk, 0);
        desk.rule(2);
        noFault("below each other, clearance 2", desk, 0);
        desk = parted(5, 5, 2, 6, 5, 3);
        fault("beside each other in layer 1", desk, 0, NEAR, 0, 1, 185);
    }

    private static void nearNoWrap() {
        int[][] places = {{11, 0, 1, 0, 1, 1}, {11, 4, 1, 0, 4, 1}, {11, 9, 1, 0, 0, 2},
            {5, 9, 1, 5, 0, 2}, {11, 4, 1, 1, 5, 1}, {0, 0, 1, 11, 9, 2}};
        for (int[] at : places) {
            BoardDesk desk = parted(at[0], at[1], at[2], at[3], at[4], at[5]);
            desk.rule(2);
            noFault("not near", desk, 0);
        }
    }

    private static void nearOrder() {
        // In a row stand pins 3, 1, 0, 2: near are 0 and 1, 0 and 2, 1 and 3.
        BoardDesk desk = Desks.withPins(4);
        int[] columns = {4, 2, 6, 0};
        for (int p = 0; p < 4; p++) {
            desk.place(p, columns[p], 0, 1);
        }
        noFault("clearance 1", desk, 0);
        desk.rule(2);
        fault("clearance 2", desk, 0, NEAR, 0, 1, 4);
        fault("clearance 2", desk, 1, NEAR, 0, 2, 4);
        fault("clearance 2", desk, 2, NEAR, 1, 3, 2);
        noFault("clearance 2", desk, 3);
        // Joined, the greater of two nets has the name of its least pin.
        desk.join(3, 2);
        fault("joined", desk, 1, NEAR, 0, 1, 4);
        fault("joined", desk, 2, NEAR, 0, 2, 4);
        fault("joined", desk, 3, NEAR, 1, 2, 2);
    }

    private static void nearAll() {
        // Copper of nine pins of one net in a square of three by three, then parted.
        BoardDesk desk = Desks.withPins(9);
        for (int p = 1; p < 9; p++) {
            desk.join(0, p);
        }
        for (int p = 0; p < 9; p++) {
            desk.track(p, 12 * (p / 3) + p % 3, 0, 0);
        }
        for (int p = 1; p < 9; p++) {
            desk.part(0);
        }
        desk.rule(2);
        int k = 0;
        for (int lesser = 0; lesser < 9; lesser++) {
            for (int greater = lesser + 1; greater < 9; greater++) {
                fault("all", desk, k, NEAR, lesser, greater, 12 * (lesser / 3) + lesser % 3);
                k++;
            }
        }
        noFault("all", desk, 36);
    }

    private static void nearFirstCell() {
        BoardDesk desk = Desks.withPins(2);
        desk.join(0, 1);
        desk.track(0, 24, 0, 11);
        desk.track(0, 144, 0, 11);
        desk.track(1, 51, 0, 5);
        desk.part(0);
        noFault("two rows off", desk, 0);
        desk.rule(2);
        fault("the first in the row", desk, 0, NEAR, 0, 1, 25);
        desk.erase(51);
        fault("one less", desk, 0, NEAR, 0, 1, 26);
        desk.join(0, 1);
        due.same("a cell in layer 1", desk.track(1, 171, 0, 0), 1);
        desk.part(0);
        fault("in layer 1 too", desk, 0, NEAR, 0, 1, 26);
        noFault("one fault for two nets", desk, 1);
        for (int cell = 52; cell <= 56; cell++) {
            desk.erase(cell);
        }
        fault("in layer 1 alone", desk, 0, NEAR, 0, 1, 145);
        desk.rip(0);
        noFault("none any more", desk, 0);
    }

    private static void nearLesserCell() {
        // The greater net's cell has the lesser number.
        BoardDesk desk = parted(6, 5, 1, 5, 5, 1);
        fault("right of it", desk, 0, NEAR, 0, 1, 66);
        desk = parted(5, 6, 1, 5, 5, 1);
        fault("below it", desk, 0, NEAR, 0, 1, 77);
    }

    private static void nearCopper() {
        BoardDesk desk = Desks.withPins(2);
        desk.join(0, 1);
        desk.place(0, 0, 0, 1);
        desk.track(1, 1, 0, 0);
        desk.part(0);
        fault("pad and copper", desk, 0, NEAR, 0, 1, 0);
        desk.join(0, 1);
        desk.lift(0);
        desk.track(0, 0, 0, 0);
        desk.part(0);
        fault("copper and copper", desk, 0, NEAR, 0, 1, 0);
        desk.join(0, 1);
        desk.erase(1);
        desk.place(1, 1, 0, 1);
        desk.part(0);
        fault("copper and pad", desk, 0, NEAR, 0, 1, 0);
        desk.bar(13, true);
        desk.bar(2, true);
        noFault("bars are near to nothing", desk, 1);
    }
}
