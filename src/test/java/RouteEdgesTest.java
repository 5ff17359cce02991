import java.util.List;
import java.util.function.Supplier;

/** Promise 13, sentence by sentence: route, and which way is taken. */
public final class RouteEdgesTest {
    private static final int NONE = -1;
    private static final int FULL = -2;

    private static final Supplier<BoardDesk> NEW = BoardDesk::new;
    private static final Supplier<BoardDesk> BUSY = Desks::busy;
    private static final Supplier<BoardDesk> CROWDED = Desks::crowded;

    private static final Edges edges = new Edges();
    private static final Due due = edges.due;

    public static void main(String[] args) {
        answers();
        pieces();
        ways();
        choice();
        copper();
        edges.finish();
    }

    private static void answers() {
        edges.holds("13: NONE: there is no such pin", RouteEdgesTest::noPin);
        edges.holds("13: 0 when none is missing: none placed", RouteEdgesTest::nonePlaced);
        edges.holds("13: 0 when none is missing: one placed", RouteEdgesTest::onePlaced);
        edges.holds("13: 0 when none is missing: of one piece", RouteEdgesTest::onePiece);
        edges.holds("13: FULL when there is no way: bars", RouteEdgesTest::shutIn);
        edges.holds("13: FULL when there is no way: another net", RouteEdgesTest::cutOff);
        edges.holds("13: FULL: one missing pin has no way, the next one has", RouteEdgesTest::next);
        edges.holds("13: the cost: 10, 14 and 30", RouteEdgesTest::costs);
        edges.holds("13: the cost of a very long way", RouteEdgesTest::longWay);
        edges.holds("13: by any pin of the net", RouteEdgesTest::anyPin);
    }

    private static void pieces() {
        edges.holds("Terms: rows don't wrap around to neighbours", RouteEdgesTest::noWrap);
        edges.holds("Terms: the first placed pin is the least", RouteEdgesTest::firstPlaced);
        edges.holds("Terms: missing is the least other one", RouteEdgesTest::leastMissing);
        edges.holds("Terms: a piece by cells of the net alone", RouteEdgesTest::pieceOfNet);
        edges.holds("Terms: a way ends at any cell of the piece", RouteEdgesTest::endsAtPiece);
    }

    private static void ways() {
        edges.holds("Terms: the pad need not be free", RouteEdgesTest::padNotFree);
        edges.holds("Terms: the last cell need not be free", RouteEdgesTest::lastNotFree);
        edges.holds("Terms: all others are free", RouteEdgesTest::othersFree);
        edges.holds("Terms: pads and copper of the net are free or not", RouteEdgesTest::ownNotFree);
        edges.holds("Terms: a gap as wide as the clearance asks", RouteEdgesTest::gaps);
    }

    private static void choice() {
        edges.holds("Terms: the ways that cost least", RouteEdgesTest::cheapestPad);
        edges.holds("Terms: whose first cell has the least number", RouteEdgesTest::firstCell);
        edges.holds("Terms: of these whose second one", RouteEdgesTest::secondCell);
        edges.holds("Terms: and so on", RouteEdgesTest::laterCells);
        edges.holds("Terms: the first cell is the missing pin's", RouteEdgesTest::fromTheMissing);
    }

    private static void copper() {
        edges.holds("Terms: all its cells that are not pads get copper", RouteEdgesTest::laid);
        edges.holds("Terms: laid for the missing pin", RouteEdgesTest::laidFor);
        edges.holds("Terms: copper of the net gets it anew", RouteEdgesTest::laidAnew);
        edges.holds("21: a way is one change", RouteEdgesTest::oneChange);
    }

    private static void noPin() {
        for (Supplier<BoardDesk> maker : List.of(NEW, BUSY, CROWDED)) {
            for (int p : new int[] {-1, 5, 16, Edges.LEAST, Edges.GREATEST}) {
                edges.leaves("route(" + p + ")", maker, desk -> desk.route(p), NONE);
            }
        }
    }

    private static void nonePlaced() {
        Supplier<BoardDesk> maker = () -> {
            BoardDesk desk = Desks.withPins(2);
            desk.join(0, 1);
            desk.track(0, 0, 0, 2);
            desk.track(1, 20, 0, 2);
            return desk;
        };
        edges.leaves("route(0)", maker, desk -> desk.route(0), 0);
        edges.leaves("route(1)", maker, desk -> desk.route(1), 0);
        edges.leaves("route(4)", BUSY, desk -> desk.route(4), 0);
    }

    private static void onePlaced() {
        Supplier<BoardDesk> maker = () -> {
            BoardDesk desk = Desks.withPins(3);
            desk.join(0, 1);
            desk.place(1, 0, 0, 3);
            desk.track(0, 20, 0, 2);
            desk.place(2, 5, 5, 1);
            return desk;
        };
        for (int p = 0; p < 3; p++) {
            int of = p;
            edges.leaves("route(" + p + ")", maker, desk -> desk.route(of), 0);
        }
    }

    private static void onePiece() {
        for (int[] at : new int[][] {{6, 5, 1}, {4, 5, 1}, {5, 4, 1}, {5, 6, 1}, {4, 4, 1},
            {6, 6, 1}, {4, 6, 1}, {6, 4, 1}, {5, 5, 2}}) {
            Supplier<BoardDesk> maker = () -> Desks.pair(5, 5, 1, at[0], at[1], at[2]);
            edges.leaves("neighbours", maker, desk -> desk.route(1), 0);
        }
        edges.leaves("by copper", BUSY, desk -> desk.route(0), 0);
        edges.leaves("by copper", BUSY, desk -> desk.route(1), 0);
        due.same("with a gap in it", Desks.pair(5, 5, 1, 7, 5, 1).route(1), 20);
        due.same("across, in the other layer", Desks.pair(5, 5, 1, 6, 5, 2).route(1), 40);
    }

    private static BoardDesk barred(BoardDesk desk, int... cells) {
        for (int cell : cells) {
            desk.bar(cell, true);
        }
        return desk;
    }

    private static void shutIn() {
        int[] corner = {1, 12, 13, 120};
        Supplier<BoardDesk> first = () -> barred(Desks.pair(0, 0, 1, 5, 5, 1), corner);
        Supplier<BoardDesk> missing = () -> barred(Desks.pair(5, 5, 1, 0, 0, 1), corner);
        for (Supplier<BoardDesk> maker : List.of(first, missing)) {
            edges.leaves("route(0)", maker, desk -> desk.route(0), FULL);
            edges.leaves("route(1)", maker, desk -> desk.route(1), FULL);
            for (int cell : corner) {
                BoardDesk desk = maker.get();
                desk.bar(cell, false);
                due.yes("a way by cell " + cell, desk.route(0) > 0);
            }
        }
        Supplier<BoardDesk> last = () ->
                barred(Desks.pair(11, 9, 2, 0, 9, 2), 119, 226, 227, 238);
        edges.leaves("the last cell", last, desk -> desk.route(0), FULL);
    }

    /** Nets 0 and 2 part the board: the wall of pin 2 in column 5 has a gap in layer 0. */
    private static BoardDesk walled(int clearance, int firstOfGap, int lastOfGap) {
        BoardDesk desk = Desks.withPins(3);
        desk.join(0, 1);
        desk.place(0, 0, 5, 1);
        desk.place(1, 11, 5, 1);
        desk.track(2, 125, 2, 9);
        desk.track(2, 5, 2, 9);
        for (int y = firstOfGap; y <= lastOfGap; y++) {
            desk.erase(12 * y + 5);
        }
        desk.rule(clearance);
        return desk;
    }

    private static void cutOff() {
        for (int clearance = 1; clearance <= 2; clearance++) {
            int asked = clearance;
            Supplier<BoardDesk> maker = () -> walled(asked, 5, 4);
            edges.leaves("route(0)", maker, desk -> desk.route(0), FULL);
        }
        BoardDesk desk = walled(1, 5, 4);
        due.same("rip(2)", desk.rip(2), 20);
        due.same("route(0) then", desk.route(0), 110);
    }

    private static void gaps() {
        due.same("clearance 1, gap of 2", walled(1, 4, 5).route(0), FULL);
        due.same("clearance 1, gap of 3", walled(1, 4, 6).route(0), 110);
        due.same("clearance 2, gap of 3", walled(2, 4, 6).route(0), FULL);
        due.same("clearance 2, gap of 4", walled(2, 4, 7).route(0), FULL);
        due.same("clearance 2, gap of 5", walled(2, 3, 7).route(0), 110);
        due.same("clearance 1, gap of 1 at the end", walled(1, 0, 0).route(0), FULL);
        // Five steps across to row 0, two along it, then four across and one down.
        due.same("clearance 1, gap of 2 at the end", walled(1, 0, 1).route(0), 156);
    }

    private static void next() {
        // Pin 1 is shut in; pin 2 could be reached, but it is not the least that is missing.
        Supplier<BoardDesk> maker = () -> {
            BoardDesk desk = Desks.withPins(3);
            desk.join(0, 1);
            desk.join(0, 2);
            desk.place(0, 5, 5, 1);
            desk.place(1, 0, 0, 1);
            desk.place(2, 9, 5, 1);
            return barred(desk, 1, 12, 13, 120);
        };
        for (int p = 0; p < 3; p++) {
            int of = p;
            edges.leaves("route(" + p + ")", maker, desk -> desk.route(of), FULL);
        }
        BoardDesk desk = maker.get();
        desk.lift(1);
        due.same("without pin 1", desk.route(0), 40);
    }

    private static void costs() {
        due.same("two steps in a row", Desks.pair(0, 0, 1, 2, 0, 1).route(0), 20);
        due.same("two steps in a column", Desks.pair(0, 0, 1, 0, 2, 1).route(0), 20);
        due.same("two steps across", Desks.pair(0, 0, 1, 2, 2, 1).route(0), 28);
        due.same("across and in a row", Desks.pair(0, 0, 1, 2, 1, 1).route(0), 24);
        due.same("in a row and to the other layer", Desks.pair(0, 0, 1, 1, 0, 2).route(0), 40);
        due.same("across and to the other layer", Desks.pair(0, 0, 2, 1, 1, 1).route(0), 44);
        due.same("a row of the board", Desks.pair(0, 9, 1, 11, 9, 1).route(0), 110);
        due.same("a column of the board", Desks.pair(11, 0, 2, 11, 9, 2).route(0), 90);
        due.same("from corner to corner", Desks.pair(11, 0, 2, 0, 9, 2).route(0), 146);
        due.same("of both layers", Desks.pair(0, 0, 1, 11, 9, 2).route(0), 176);
    }

    private static void longWay() {
        // Walls in rows 1, 3, 5 and 7 are open at alternate ends, and layer 1 is shut.
        BoardDesk desk = Desks.pair(0, 0, 1, 11, 8, 1);
        for (int cell = 120; cell < 240; cell++) {
            desk.bar(cell, true);
        }
        for (int x = 0; x < 11; x++) {
            barred(desk, 12 + x, 36 + x + 1, 60 + x, 84 + x + 1);
        }
        // 10 steps, 9 each in rows 2, 4 and 6, 10 again, and two across through each wall.
        due.same("route(1)", desk.route(1), 100 + 3 * 90 + 100 + 8 * 14);
        due.same("route(1) again", desk.route(1), 0);
        due.same("rip(0)", desk.rip(0), 10 + 3 * 10 + 10 + 4);
    }

    private static void anyPin() {
        for (int p = 0; p < 3; p++) {
            BoardDesk desk = Desks.withPins(3);
            desk.join(0, 1);
            desk.join(1, 2);
            desk.place(1, 0, 0, 1);
            desk.place(2, 4, 0, 1);
            due.same("route(" + p + ")", desk.route(p), 40);
            due.cells("by pin " + p, desk, 0, 0, 1, 2, 3, 4);
        }
    }

    private static void noWrap() {
        due.same("cells 11 and 12", Desks.pair(11, 0, 1, 0, 1, 1).route(0), 114);
        due.same("cells 12 and 11", Desks.pair(0, 1, 1, 11, 0, 1).route(0), 114);
        due.same("cells 11 and 24", Desks.pair(11, 0, 1, 0, 2, 1).route(0), 118);
        due.same("cells 119 and 120", Desks.pair(11, 9, 1, 0, 0, 2).route(0), 176);
        due.same("cells 113 and 125", Desks.pair(5, 9, 1, 5, 0, 2).route(0), 120);
        due.same("cells 0 and 239", Desks.pair(0, 0, 1, 11, 9, 2).route(0), 176);
    }

    private static void firstPlaced() {
        // Pin 0 is not placed. Ways lead from pin 2 to pin 1 and are laid for pin 2.
        BoardDesk desk = Desks.withPins(3);
        desk.join(0, 1);
        desk.join(2, 0);
        desk.place(2, 0, 0, 1);
        desk.place(1, 4, 0, 1);
        due.same("route(0)", desk.route(0), 40);
        desk.part(0);
        due.same("copper(2)", desk.copper(2), 0);
        desk.part(0);
        due.same("copper(2), of pin 2", desk.copper(2), 2);
    }

    private static void leastMissing() {
        BoardDesk desk = Desks.withPins(5);
        for (int p = 1; p < 5; p++) {
            desk.join(0, p);
        }
        desk.place(4, 0, 2, 1);
        desk.place(3, 9, 0, 1);
        desk.place(1, 1, 0, 1);
        desk.place(0, 0, 0, 1);
        // Pin 1 is of the piece and pin 2 not placed; pin 4 is nearer than pin 3.
        due.same("check(0, 2)", desk.check(0, 2), 3);
        due.same("route to pin 3", desk.route(0), 80);
        due.same("route to pin 4", desk.route(0), 20);
        due.same("route to none", desk.route(0), 0);
    }

    private static void pieceOfNet() {
        // Pin 2's copper leads from pin 0 to pin 1, but is of their net only with a joint.
        BoardDesk desk = Desks.withPins(3);
        desk.join(0, 1);
        desk.join(0, 2);
        desk.place(0, 0, 0, 1);
        desk.place(1, 4, 0, 1);
        desk.track(2, 1, 0, 2);
        due.same("joined", desk.route(0), 0);
        desk.part(1);
        due.same("check(0, 0), open", desk.check(0, 0), 1);
        // Every cell of layer 0 beside the pads is too near to the copper but the pads' own.
        due.same("parted", desk.route(0), 100);
    }

    private static void endsAtPiece() {
        BoardDesk desk = Desks.withPins(3);
        desk.join(0, 1);
        desk.place(0, 0, 0, 1);
        desk.track(0, 0, 0, 9);
        desk.place(1, 9, 4, 1);
        due.same("to copper of the first one", desk.route(0), 40);
        desk = Desks.withPins(3);
        desk.join(0, 1);
        desk.join(0, 2);
        desk.place(0, 0, 0, 1);
        desk.place(2, 1, 0, 1);
        desk.place(1, 5, 0, 1);
        due.same("to another pad of its piece", desk.route(0), 40);
    }

    /** Pin 2 stands two columns right of (6, 0), with clearance 2. */
    private static BoardDesk nearPad(int x0, int x1) {
        BoardDesk desk = Desks.withPins(3);
        desk.join(0, 1);
        desk.place(0, x0, 0, 1);
        desk.place(1, x1, 0, 1);
        desk.place(2, 8, 0, 1);
        desk.rule(2);
        return desk;
    }

    private static void padNotFree() {
        BoardDesk desk = nearPad(0, 6);
        due.same("its pad is not free", desk.track(1, 6, 0, 0), NONE);
        due.same("route(1)", desk.route(1), 60);
        due.cells("from it", desk, 0, 0, 1, 2, 3, 4, 5, 6);
    }

    private static void lastNotFree() {
        BoardDesk desk = nearPad(6, 0);
        due.same("its pad is not free", desk.track(0, 6, 0, 0), NONE);
        due.same("route(1)", desk.route(1), 60);
        due.cells("to it", desk, 0, 0, 1, 2, 3, 4, 5, 6);
    }

    private static void othersFree() {
        // Columns 2 to 6 of layer 0 are near to pin 2 down to row 4: the way dives below it.
        BoardDesk desk = Desks.withPins(3);
        desk.join(0, 1);
        desk.place(0, 0, 0, 1);
        desk.place(1, 8, 0, 1);
        desk.place(2, 4, 2, 1);
        desk.rule(2);
        due.same("route(1)", desk.route(1), 140);
        due.cells("below", desk, 0, 0, 1, 7, 8, 121, 122, 123, 124, 125, 126, 127);
        BoardDesk barred = barred(Desks.pair(0, 0, 1, 2, 0, 1), 1);
        due.same("round a bar", barred.route(1), 28);
        due.cells("round a bar", barred, 0, 0, 2, 13);
    }

    private static void ownNotFree() {
        // Copper of the net at column 4 is not free: the way can't lead over it.
        BoardDesk desk = Desks.withPins(3);
        desk.join(0, 1);
        desk.place(0, 0, 0, 1);
        desk.place(1, 8, 0, 1);
        desk.track(1, 4, 0, 0);
        desk.place(2, 4, 2, 1);
        due.same("with clearance 1", desk.route(1), 80);
        desk.undo();
        desk.rule(2);
        due.same("with clearance 2", desk.route(1), 140);
        due.same("copper(3)", desk.copper(3), NONE);
        due.same("copper(4) stays", desk.copper(4), 0);
    }

    private static void cheapestPad() {
        // The pad in layer 1 has the greater number, but the cheaper way.
        BoardDesk desk = Desks.pair(0, 0, 2, 4, 0, 3);
        due.same("route(1)", desk.route(1), 40);
        due.cells("in layer 1", desk, 0, 4, 120, 121, 122, 123, 124);
        desk = barred(Desks.pair(0, 0, 3, 4, 0, 3), 2);
        due.same("round a bar it costs more", desk.route(1), 40);
        due.cells("in layer 1 too", desk, 0, 0, 4, 120, 121, 122, 123, 124);
    }

    private static void firstCell() {
        BoardDesk desk = Desks.pair(0, 0, 3, 4, 0, 3);
        due.same("route(1)", desk.route(1), 40);
        due.cells("in layer 0", desk, 0, 0, 1, 2, 3, 4, 120, 124);
        desk = barred(Desks.pair(0, 0, 3, 4, 0, 3), 2, 122);
        due.same("round bars in both", desk.route(1), 48);
        due.cells("in layer 0 too", desk, 0, 0, 1, 14, 3, 4, 120, 124);
    }

    private static void secondCell() {
        // Left of the barred cell and right of it cost the same, from below and from above.
        BoardDesk desk = barred(Desks.pair(5, 5, 1, 5, 7, 1), 77);
        due.same("route(1) from below", desk.route(1), 28);
        due.cells("left", desk, 0, 65, 76, 89);
        desk = barred(Desks.pair(5, 7, 1, 5, 5, 1), 77);
        due.same("route(1) from above", desk.route(1), 28);
        due.cells("left too", desk, 0, 65, 76, 89);
        // Above it and below it, likewise.
        desk = barred(Desks.pair(5, 5, 1, 7, 5, 1), 66);
        due.same("route(1) from the right", desk.route(1), 28);
        due.cells("above", desk, 0, 65, 54, 67);
        // Three steps, one of them across: it is taken at once.
        desk = Desks.pair(0, 0, 1, 3, 1, 1);
        due.same("route(1), one across", desk.route(1), 34);
        due.cells("across at once", desk, 0, 0, 1, 2, 15);
    }

    private static void laterCells() {
        // Cell 3 is barred, so all cheapest ways begin with 16 and 15.
        BoardDesk desk = barred(Desks.pair(0, 0, 1, 4, 1, 1), 3);
        due.same("the third", desk.route(1), 44);
        due.cells("the third", desk, 0, 0, 1, 2, 15, 16);
        desk = barred(Desks.pair(0, 0, 1, 4, 1, 1), 2, 3);
        due.same("the fourth", desk.route(1), 44);
        due.cells("the fourth", desk, 0, 0, 1, 14, 15, 16);
        // To the other layer as late as can be from layer 0, at once from layer 1.
        desk = Desks.pair(0, 0, 2, 3, 0, 1);
        due.same("from layer 0", desk.route(1), 60);
        due.cells("from layer 0", desk, 0, 0, 1, 2, 3, 120);
        desk = Desks.pair(0, 0, 1, 3, 0, 2);
        due.same("from layer 1", desk.route(1), 60);
        due.cells("from layer 1", desk, 0, 0, 1, 2, 3, 123);
    }

    /**
     * Two ways of the same cost between pads in both layers: one goes in row 0, in layer 0 at its
     * left end, the other one in row 2, in layer 0 at its right end.
     */
    private static BoardDesk twoWays(int x0, int x1) {
        BoardDesk desk = Desks.pair(x0, 1, 3, x1, 1, 3);
        boolean[] open = new boolean[240];
        for (int cell : new int[] {1, 2, 3, 123, 124, 125, 145, 146, 147, 27, 28, 29}) {
            open[cell] = true;
        }
        for (int layer = 0; layer < 2; layer++) {
            for (int spot = 0; spot < 48; spot++) {
                int cell = 120 * layer + spot;
                if (!open[cell]) {
                    desk.bar(cell, true);
                }
            }
        }
        return desk;
    }

    private static void fromTheMissing() {
        BoardDesk desk = twoWays(6, 0);
        due.same("from the left", desk.route(1), 98);
        due.cells("from the left", desk, 0, 12, 132, 18, 138, 1, 2, 3, 123, 124, 125);
        desk = twoWays(0, 6);
        due.same("from the right", desk.route(1), 98);
        due.cells("from the right", desk, 0, 12, 132, 18, 138, 145, 146, 147, 27, 28, 29);
    }

    private static void laid() {
        // The way to pin 1 leads over the pad of pin 2.
        BoardDesk desk = Desks.withPins(3);
        desk.join(0, 1);
        desk.join(0, 2);
        desk.place(0, 0, 0, 1);
        desk.place(1, 8, 0, 1);
        desk.place(2, 4, 0, 1);
        due.same("route(0)", desk.route(0), 80);
        for (int cell = 0; cell <= 8; cell++) {
            due.same("copper(" + cell + ")", desk.copper(cell), 0);
            boolean pad = cell % 4 == 0;
            due.same("erase(" + cell + ")", Edges.told(desk.erase(cell)), Edges.told(!pad));
        }
    }

    private static void laidFor() {
        BoardDesk desk = Desks.pair(0, 0, 1, 4, 0, 1);
        desk.route(0);
        desk.part(0);
        due.same("copper(0)", desk.copper(0), 0);
        for (int cell = 1; cell <= 4; cell++) {
            due.same("copper(" + cell + ")", desk.copper(cell), 1);
        }
    }

    private static void laidAnew() {
        // Copper at the way's end, in its middle and at its beginning, of pins 0 and 2.
        BoardDesk desk = Desks.withPins(3);
        desk.join(0, 1);
        desk.join(0, 2);
        desk.place(0, 0, 0, 1);
        desk.place(1, 8, 0, 1);
        desk.track(0, 0, 0, 1);
        desk.track(2, 4, 0, 0);
        desk.track(2, 7, 0, 0);
        desk.track(2, 16, 0, 0);
        due.same("route(0)", desk.route(0), 70);
        desk.part(1);
        desk.part(0);
        for (int cell = 1; cell <= 8; cell++) {
            due.same("copper(" + cell + ")", desk.copper(cell), 1);
        }
        due.same("copper(16), beside the way", desk.copper(16), 2);
    }

    private static void oneChange() {
        Supplier<BoardDesk> maker = () -> {
            BoardDesk desk = Desks.withPins(3);
            desk.join(0, 1);
            desk.join(0, 2);
            desk.place(0, 0, 0, 1);
            desk.place(1, 8, 0, 1);
            desk.track(2, 3, 0, 1);
            return desk;
        };
        edges.changes("route(2)", maker, desk -> desk.route(2), 80);
    }
}
