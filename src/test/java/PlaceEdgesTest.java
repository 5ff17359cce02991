import java.util.List;
import java.util.function.Supplier;

/** Promises 7 to 10, sentence by sentence: place, lift, rule, bar; and what is free. */
public final class PlaceEdgesTest {
    private static final int NONE = -1;

    private static final Supplier<BoardDesk> NEW = BoardDesk::new;
    private static final Supplier<BoardDesk> BUSY = Desks::busy;
    private static final Supplier<BoardDesk> CROWDED = Desks::crowded;

    private static final Edges edges = new Edges();
    private static final Due due = edges.due;

    public static void main(String[] args) {
        edges.holds("the desk that tests begin with", PlaceEdgesTest::busyDesk);
        place();
        free();
        lift();
        rule();
        bar();
        edges.finish();
    }

    private static void place() {
        edges.holds("7: pads in the layers told by the bits", PlaceEdgesTest::placeLayers);
        edges.holds("Terms: the number of a cell, at the board's ends", PlaceEdgesTest::placeEnds);
        edges.holds("7: False, refused: no such pin", PlaceEdgesTest::placeNoPin);
        edges.holds("7: False, refused: no such place", PlaceEdgesTest::placeNoPlace);
        edges.holds("7: False, refused: no such layers", PlaceEdgesTest::placeNoLayers);
        edges.holds("7: False, refused: it is placed", PlaceEdgesTest::placePlaced);
        edges.holds("7: False, refused: a cell is a pad", PlaceEdgesTest::placeOnPad);
        edges.holds("7: False, refused: a cell has copper", PlaceEdgesTest::placeOnCopper);
        edges.holds("7: False, refused: a cell is barred", PlaceEdgesTest::placeOnBar);
        edges.holds("7: False, refused: a cell is not free", PlaceEdgesTest::placeNear);
    }

    private static void free() {
        edges.holds("Terms: too near with clearance 1", () -> freeAround(1));
        edges.holds("Terms: too near with clearance 2", () -> freeAround(2));
        edges.holds("Terms: near in the same layer alone", PlaceEdgesTest::freeOtherLayer);
        edges.holds("Terms: rows and columns don't wrap around", PlaceEdgesTest::freeNoWrap);
        edges.holds("Terms: cells of the net are never too near", PlaceEdgesTest::freeOwnNet);
        edges.holds("Terms: joints change what is free", PlaceEdgesTest::freeByJoints);
        edges.holds("Terms: barred cells are not free, but near is", PlaceEdgesTest::freeNearBar);
    }

    private static void lift() {
        edges.holds("8: not placed any more, both pads go", PlaceEdgesTest::liftBoth);
        edges.holds("8: whether it was: not placed", PlaceEdgesTest::liftNotPlaced);
        edges.holds("8: whether it was: no such pin", PlaceEdgesTest::liftNoPin);
        edges.holds("8: the copper stays", PlaceEdgesTest::liftLeavesCopper);
        edges.holds("8: it can be placed again", PlaceEdgesTest::liftAndPlace);
    }

    private static void rule() {
        edges.holds("9: the one before", PlaceEdgesTest::ruleBefore);
        edges.holds("9: NONE, refused, when it is not 1 or 2", PlaceEdgesTest::ruleNoSuch);
        edges.holds("9: the same one changes nothing", PlaceEdgesTest::ruleSame);
        edges.holds("9: what is near then stays", PlaceEdgesTest::ruleNear);
    }

    private static void bar() {
        edges.holds("10: whether it is then", PlaceEdgesTest::barAnswers);
        edges.holds("10: the first and the last cell", PlaceEdgesTest::barEnds);
        edges.holds("10: False, refused: no such cell", PlaceEdgesTest::barNoCell);
        edges.holds("10: False, refused: it belongs to a net", PlaceEdgesTest::barOfNet);
        edges.holds("10: not barred any more, which it was not", PlaceEdgesTest::barNotBarred);
        edges.holds("10: barred again", PlaceEdgesTest::barAgain);
        edges.holds("10: a cell that belongs to no net any more", PlaceEdgesTest::barLeftCell);
    }

    private static void busyDesk() {
        BoardDesk desk = Desks.busy();
        due.cells("net 0", desk, 0, 0, 1, 2, 3, 4, 5, 120);
        desk = Desks.busy();
        due.cells("net 2", desk, 2, 119, 180);
        due.same("15 changes", desk.undo(), 14);
        desk = Desks.busy();
        due.cells("net 4", desk, 4, 64, 65, 66, 67);
        due.same("five bytes", desk.read(0), 6);
        due.same("clearance", desk.rule(1), 2);
        due.same("the barred cell", desk.track(4, 100, 0, 0), NONE);
        desk = Desks.crowded();
        due.cells("net 0 then", desk, 0, 0, 1, 2, 4, 120);
        due.same("the other barred cell", desk.track(4, 220, 0, 0), NONE);
        due.same("16 changes are kept", desk.undo(), 15);
    }

    private static void placeFails(Supplier<BoardDesk> maker, int p, int x, int y, int layers) {
        String told = "place(" + p + ", " + x + ", " + y + ", " + layers + ")";
        edges.leaves(told, maker, desk -> Edges.told(desk.place(p, x, y, layers)), 0);
    }

    private static void placeWorks(Supplier<BoardDesk> maker, int p, int x, int y, int layers) {
        String told = "place(" + p + ", " + x + ", " + y + ", " + layers + ")";
        due.yes(told, maker.get().place(p, x, y, layers));
    }

    private static void placeLayers() {
        for (int layers = 1; layers <= 3; layers++) {
            int bits = layers;
            String told = "place(4, 9, 5, " + layers + ")";
            edges.changes(told, BUSY, desk -> Edges.told(desk.place(4, 9, 5, bits)), 1);
            BoardDesk desk = Desks.withPins(1);
            due.yes(told, desk.place(0, 9, 5, layers));
            due.same(told + ": copper(69)", desk.copper(69), (layers & 1) != 0 ? 0 : NONE);
            due.same(told + ": copper(189)", desk.copper(189), (layers & 2) != 0 ? 0 : NONE);
        }
    }

    private static void placeEnds() {
        int[][] ends = {{0, 0, 0}, {11, 0, 11}, {0, 1, 12}, {0, 9, 108}, {11, 9, 119}};
        for (int[] end : ends) {
            for (int layers = 1; layers <= 3; layers++) {
                BoardDesk desk = Desks.withPins(1);
                due.yes("place at cell " + end[2], desk.place(0, end[0], end[1], layers));
                int upper = end[2];
                int lower = 120 + end[2];
                int[] cells = layers == 3 ? new int[] {upper, lower}
                        : new int[] {layers == 1 ? upper : lower};
                due.cells("at cell " + end[2] + ", layers " + layers, desk, 0, cells);
            }
        }
    }

    private static void placeNoPin() {
        for (int p : new int[] {-1, 5, 16, Edges.LEAST, Edges.GREATEST}) {
            placeFails(BUSY, p, 9, 5, 1);
        }
        placeFails(CROWDED, 5, 9, 5, 3);
        placeFails(NEW, 0, 0, 0, 1);
    }

    private static void placeNoPlace() {
        for (int wrong : new int[] {-1, 12, 13, Edges.LEAST, Edges.GREATEST}) {
            placeFails(BUSY, 4, wrong, 5, 1);
            placeFails(BUSY, 4, wrong, 5, 2);
        }
        for (int wrong : new int[] {-1, 10, 11, Edges.LEAST, Edges.GREATEST}) {
            placeFails(BUSY, 4, 9, wrong, 1);
            placeFails(BUSY, 4, 9, wrong, 2);
        }
        placeWorks(BUSY, 4, 11, 5, 1);
        placeWorks(BUSY, 4, 0, 6, 1);
        placeWorks(BUSY, 4, 9, 0, 2);
        placeWorks(BUSY, 4, 7, 9, 1);
    }

    private static void placeNoLayers() {
        for (int wrong : new int[] {0, 4, 5, 7, -1, -2, Edges.LEAST, Edges.GREATEST}) {
            placeFails(BUSY, 4, 9, 5, wrong);
        }
        placeFails(CROWDED, 4, 9, 5, 0);
        placeFails(CROWDED, 4, 9, 5, 4);
    }

    private static void placePlaced() {
        placeFails(BUSY, 0, 9, 5, 1);
        placeFails(BUSY, 0, 0, 0, 3);
        // Its pad is in the other layer, so that nothing else stands in the way.
        placeFails(BUSY, 2, 0, 5, 1);
        placeFails(CROWDED, 3, 11, 9, 2);
    }

    private static void placeOnPad() {
        // Pin 1 is of the net of pin 0, pin 4 of that of pins 2 and 3.
        for (int layers = 1; layers <= 3; layers++) {
            placeFails(CROWDED, 1, 0, 0, layers);
        }
        placeFails(CROWDED, 4, 0, 5, 2);
        placeFails(CROWDED, 4, 0, 5, 3);
        placeWorks(CROWDED, 4, 0, 5, 1);
        placeFails(CROWDED, 4, 11, 9, 1);
        placeFails(CROWDED, 4, 11, 9, 3);
        placeWorks(CROWDED, 4, 11, 9, 2);
        placeFails(BUSY, 4, 0, 0, 1);
    }

    private static void placeOnCopper() {
        // Copper of the pin itself, then of another pin of its net, in one layer each.
        placeFails(BUSY, 4, 4, 5, 1);
        placeFails(BUSY, 4, 4, 5, 3);
        placeWorks(BUSY, 4, 4, 5, 2);
        Supplier<BoardDesk> joined = () -> {
            BoardDesk desk = Desks.withPins(2);
            desk.join(0, 1);
            desk.track(0, 170, 0, 0);
            return desk;
        };
        placeFails(joined, 1, 2, 4, 2);
        placeFails(joined, 1, 2, 4, 3);
        placeWorks(joined, 1, 2, 4, 1);
    }

    private static void placeOnBar() {
        placeFails(BUSY, 4, 4, 8, 1);
        placeFails(BUSY, 4, 4, 8, 3);
        placeWorks(BUSY, 4, 4, 8, 2);
        placeFails(CROWDED, 4, 4, 8, 2);
        Supplier<BoardDesk> below = () -> {
            BoardDesk desk = Desks.withPins(1);
            desk.bar(239, true);
            return desk;
        };
        placeFails(below, 0, 11, 9, 2);
        placeFails(below, 0, 11, 9, 3);
        placeWorks(below, 0, 11, 9, 1);
    }

    private static void placeNear() {
        // Cell 5 is two rows and columns off, in layer 0 alone.
        placeFails(BUSY, 4, 7, 2, 1);
        placeFails(BUSY, 4, 7, 2, 3);
        placeWorks(BUSY, 4, 7, 2, 2);
        placeWorks(BUSY, 4, 8, 2, 3);
        placeWorks(BUSY, 4, 7, 3, 3);
        // Cell 180 likewise, in layer 1 alone.
        placeFails(BUSY, 4, 2, 7, 2);
        placeFails(BUSY, 4, 2, 7, 3);
        placeWorks(BUSY, 4, 2, 7, 1);
        placeWorks(BUSY, 4, 3, 7, 3);
        placeWorks(BUSY, 4, 2, 8, 3);
    }

    /** Pin 2 is of another net than pin 0, whose pad stands in each corner and inside. */
    private static void freeAround(int clearance) {
        int[][] spots = {{5, 5}, {0, 0}, {11, 0}, {0, 9}, {11, 9}};
        for (int[] spot : spots) {
            for (int y = 0; y < 10; y++) {
                BoardDesk desk = Desks.withPins(3);
                desk.rule(clearance);
                desk.place(0, spot[0], spot[1], 1);
                for (int x = 0; x < 12; x++) {
                    int far = Math.max(Math.abs(x - spot[0]), Math.abs(y - spot[1]));
                    String told = "place at " + x + ", " + y + ", off " + spot[0] + ", " + spot[1];
                    due.same(told, Edges.told(desk.place(2, x, y, 1)), Edges.told(far > clearance));
                    desk.lift(2);
                    int cell = 12 * y + x;
                    int laid = far > clearance ? 1 : NONE;
                    due.same("track over cell " + cell, desk.track(2, cell, 0, 0), laid);
                    desk.erase(cell);
                }
            }
        }
    }

    private static void freeOtherLayer() {
        BoardDesk desk = Desks.withPins(3);
        desk.rule(2);
        desk.place(0, 5, 9, 1);
        due.yes("in the other layer, at the same place", desk.place(1, 5, 9, 2));
        due.yes("row 0 of layer 1 is not below row 9 of layer 0", desk.place(2, 5, 0, 2));
    }

    private static void freeNoWrap() {
        for (int clearance = 1; clearance <= 2; clearance++) {
            int columns = clearance;
            for (int y = 3; y <= 6; y++) {
                for (int x = 0; x < columns; x++) {
                    BoardDesk desk = Desks.withPins(2);
                    desk.rule(clearance);
                    desk.place(0, 11, 4, 1);
                    due.yes("column " + x + ", row " + y, desk.place(1, x, y, 1));
                    desk = Desks.withPins(2);
                    desk.rule(clearance);
                    desk.place(0, 0, 5, 2);
                    due.yes("column " + (11 - x), desk.place(1, 11 - x, y, 2));
                }
            }
            BoardDesk desk = Desks.withPins(3);
            desk.rule(clearance);
            desk.place(0, 11, 9, 1);
            due.yes("cell 120 is not behind cell 119", desk.place(1, 0, 0, 2));
            due.yes("cell 131 is not below cell 119", desk.place(2, 11, 0, 2));
        }
    }

    private static void freeOwnNet() {
        BoardDesk desk = Desks.withPins(3);
        desk.join(2, 1);
        desk.rule(2);
        desk.place(1, 5, 5, 1);
        due.yes("beside a pad of the net", desk.place(2, 6, 5, 1));
        due.same("beside and over them", desk.track(1, 64, 0, 3), 2);
        due.same("for another net", desk.track(0, 69, 0, 0), NONE);
    }

    private static void freeByJoints() {
        BoardDesk desk = Desks.withPins(2);
        desk.place(0, 5, 5, 1);
        due.no("not joined", desk.place(1, 6, 5, 1));
        desk.join(0, 1);
        due.yes("joined", desk.place(1, 6, 5, 1));
        desk.part(0);
        due.same("parted, its own pad is not free", desk.track(1, 66, 0, 0), NONE);
    }

    private static void freeNearBar() {
        BoardDesk desk = Desks.withPins(1);
        desk.rule(2);
        desk.bar(65, true);
        due.no("on a barred cell", desk.place(0, 5, 5, 1));
        due.yes("beside it", desk.place(0, 6, 5, 1));
        desk.lift(0);
        desk.bar(65, false);
        due.yes("not barred any more", desk.place(0, 5, 5, 1));
    }

    private static void liftBoth() {
        edges.changes("lift(0)", BUSY, desk -> Edges.told(desk.lift(0)), 1);
        BoardDesk desk = Desks.busy();
        desk.lift(0);
        due.same("copper(0)", desk.copper(0), NONE);
        due.same("copper(120)", desk.copper(120), NONE);
        due.same("copper(5), a pad of the net", desk.copper(5), 0);
    }

    private static void liftNotPlaced() {
        edges.leaves("lift(4)", BUSY, desk -> Edges.told(desk.lift(4)), 0);
        edges.leaves("lift(1)", CROWDED, desk -> Edges.told(desk.lift(1)), 0);
        BoardDesk desk = Desks.busy();
        due.yes("lift(0)", desk.lift(0));
        due.no("lift(0) again", desk.lift(0));
    }

    private static void liftNoPin() {
        for (Supplier<BoardDesk> maker : List.of(NEW, BUSY, CROWDED)) {
            for (int p : new int[] {-1, 5, 16, Edges.LEAST, Edges.GREATEST}) {
                edges.leaves("lift(" + p + ")", maker, desk -> Edges.told(desk.lift(p)), 0);
            }
        }
    }

    private static void liftLeavesCopper() {
        BoardDesk desk = Desks.busy();
        due.yes("lift(1)", desk.lift(1));
        due.cells("without its pad", desk, 0, 0, 1, 2, 3, 4, 120);
    }

    private static void liftAndPlace() {
        BoardDesk desk = Desks.busy();
        desk.lift(0);
        due.yes("at its old place, in one layer", desk.place(0, 0, 0, 2));
        due.same("copper(0)", desk.copper(0), NONE);
        due.same("copper(120)", desk.copper(120), 0);
        desk.lift(0);
        due.yes("at another place", desk.place(0, 9, 0, 1));
        due.same("copper(9)", desk.copper(9), 0);
        due.same("copper(120) then", desk.copper(120), NONE);
    }

    private static void ruleBefore() {
        edges.changes("rule(1)", BUSY, desk -> desk.rule(1), 2);
        edges.changes("rule(2)", NEW, desk -> desk.rule(2), 1);
    }

    private static void ruleNoSuch() {
        for (Supplier<BoardDesk> maker : List.of(NEW, BUSY, CROWDED)) {
            for (int wrong : new int[] {0, 3, -1, Edges.LEAST, Edges.GREATEST}) {
                edges.leaves("rule(" + wrong + ")", maker, desk -> desk.rule(wrong), NONE);
            }
        }
    }

    private static void ruleSame() {
        edges.leaves("rule(2)", BUSY, desk -> desk.rule(2), 2);
        edges.leaves("rule(2)", CROWDED, desk -> desk.rule(2), 2);
        edges.leaves("rule(1)", NEW, desk -> desk.rule(1), 1);
    }

    private static void ruleNear() {
        BoardDesk desk = Desks.withPins(2);
        desk.place(0, 4, 4, 1);
        desk.place(1, 6, 4, 1);
        due.same("rule(2)", desk.rule(2), 1);
        due.same("copper(52)", desk.copper(52), 0);
        due.same("copper(54)", desk.copper(54), 1);
        due.same("rule(1)", desk.rule(1), 2);
    }

    private static int barred(BoardDesk desk, int cell, boolean is) {
        return Edges.told(desk.bar(cell, is));
    }

    private static void barAnswers() {
        edges.changes("bar(101, true)", BUSY, desk -> barred(desk, 101, true), 1);
        edges.changes("bar(100, false)", BUSY, desk -> barred(desk, 100, false), 0);
        BoardDesk desk = Desks.busy();
        desk.bar(101, true);
        desk.bar(100, false);
        due.same("cell 101 is not free", desk.track(4, 101, 0, 0), NONE);
        due.same("cell 100 is free", desk.track(4, 100, 0, 0), 1);
    }

    private static void barEnds() {
        for (int cell : new int[] {0, 119, 120, 239}) {
            BoardDesk desk = Desks.withPins(1);
            due.yes("bar(" + cell + ", true)", desk.bar(cell, true));
            due.same("it is not free", desk.track(0, cell, 0, 0), NONE);
            due.no("bar(" + cell + ", false)", desk.bar(cell, false));
            due.same("it is free", desk.track(0, cell, 0, 0), 1);
        }
    }

    private static void barNoCell() {
        for (Supplier<BoardDesk> maker : List.of(NEW, BUSY, CROWDED)) {
            for (int wrong : new int[] {-1, 240, 241, Edges.LEAST, Edges.GREATEST}) {
                edges.leaves("bar(" + wrong + ", true)", maker, desk -> barred(desk, wrong, true), 0);
                edges.leaves("bar(" + wrong + ", false)", maker,
                        desk -> barred(desk, wrong, false), 0);
            }
        }
    }

    private static void barOfNet() {
        for (int cell : new int[] {0, 120, 119, 180, 1, 64}) {
            edges.leaves("bar(" + cell + ", true)", BUSY, desk -> barred(desk, cell, true), 0);
            edges.leaves("bar(" + cell + ", false)", BUSY, desk -> barred(desk, cell, false), 0);
        }
    }

    private static void barNotBarred() {
        edges.leaves("bar(101, false)", BUSY, desk -> barred(desk, 101, false), 0);
        edges.leaves("bar(3, false)", CROWDED, desk -> barred(desk, 3, false), 0);
    }

    private static void barAgain() {
        edges.leaves("bar(100, true)", BUSY, desk -> barred(desk, 100, true), 1);
        edges.leaves("bar(220, true)", CROWDED, desk -> barred(desk, 220, true), 1);
    }

    private static void barLeftCell() {
        BoardDesk desk = Desks.busy();
        desk.erase(1);
        desk.lift(0);
        due.yes("bar(1, true), copper before", desk.bar(1, true));
        due.yes("bar(0, true), a pad before", desk.bar(0, true));
        due.yes("bar(120, true), a pad before", desk.bar(120, true));
        due.no("place(0, 0, 0, 3) then", desk.place(0, 0, 0, 3));
    }
}
