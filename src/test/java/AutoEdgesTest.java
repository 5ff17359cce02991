import java.util.List;
import java.util.function.Supplier;

/** Promises 14 and 15, sentence by sentence: rip, auto. */
public final class AutoEdgesTest {
    private static final int NONE = -1;

    private static final Supplier<BoardDesk> NEW = BoardDesk::new;
    private static final Supplier<BoardDesk> BUSY = Desks::busy;
    private static final Supplier<BoardDesk> CROWDED = Desks::crowded;

    private static final Edges edges = new Edges();
    private static final Due due = edges.due;

    public static void main(String[] args) {
        rip();
        auto();
        order();
        edges.finish();
    }

    private static void rip() {
        edges.holds("14: all copper of the net, how many cells", AutoEdgesTest::ripAll);
        edges.holds("14: all copper: the whole board", AutoEdgesTest::ripBoard);
        edges.holds("14: how many: none", AutoEdgesTest::ripNone);
        edges.holds("14: copper goes, pads stay", AutoEdgesTest::ripLeavesPads);
        edges.holds("14: that belongs to the net, not to others", AutoEdgesTest::ripLeavesOthers);
        edges.holds("14: NONE: there is no such pin", AutoEdgesTest::ripNoPin);
    }

    private static void auto() {
        edges.holds("15: no net with two placed pins", AutoEdgesTest::autoNone);
        edges.holds("15: nets with one placed pin don't count", AutoEdgesTest::autoOnePlaced);
        edges.holds("15: nets that have no pin missing before count", AutoEdgesTest::autoWhole);
        edges.holds("15: no way to the one that is missing", AutoEdgesTest::autoNoWay);
        edges.holds("15: until there is no way: what was laid stays", AutoEdgesTest::autoPartly);
        edges.holds("15: until there is no way: no pin behind it", AutoEdgesTest::autoStops);
        edges.holds("15: all nets, behind one without a way, too", AutoEdgesTest::autoGoesOn);
        edges.holds("15: until no pin is missing: 16 pins", AutoEdgesTest::autoOneNet);
        edges.holds("15: all nets: 8 of them", AutoEdgesTest::autoManyNets);
        edges.holds("15: all ways are one change", AutoEdgesTest::autoOneChange);
    }

    private static void order() {
        edges.holds("15: first those with the lesser sum", AutoEdgesTest::lesserSumFirst);
        edges.holds("15: columns and rows add up", AutoEdgesTest::columnsAndRows);
        edges.holds("15: the greatest less the least", AutoEdgesTest::greatestLessLeast);
        edges.holds("15: of the placed pins", AutoEdgesTest::placedPinsAlone);
        edges.holds("15: of the same sum the lesser net first", AutoEdgesTest::lesserNetFirst);
    }

    private static void ripAll() {
        edges.changes("rip(0)", BUSY, desk -> desk.rip(0), 4);
        edges.changes("rip(1), the same net", BUSY, desk -> desk.rip(1), 4);
        edges.changes("rip(4)", BUSY, desk -> desk.rip(4), 4);
        BoardDesk desk = Desks.withPins(3);
        desk.join(0, 2);
        desk.track(0, 0, 0, 0);
        desk.track(2, 119, 8, 1);
        desk.track(2, 120, 0, 0);
        due.same("of both pins, in both layers", desk.rip(0), 4);
        due.cells("nothing is left", desk, 0);
    }

    private static void ripBoard() {
        BoardDesk desk = Desks.withPins(1);
        for (int row = 0; row < 20; row++) {
            due.same("row " + row, desk.track(0, 12 * row, 0, 11), 12);
        }
        due.same("rip(0)", desk.rip(0), 240);
        due.same("rip(0) again", desk.rip(0), 0);
        due.cells("nothing is left", desk, 0);
    }

    private static void ripNone() {
        edges.leaves("rip(2)", BUSY, desk -> desk.rip(2), 0);
        edges.leaves("rip(0)", () -> Desks.withPins(1), desk -> desk.rip(0), 0);
        BoardDesk desk = Desks.busy();
        desk.rip(0);
        due.same("rip(0) again", desk.rip(0), 0);
    }

    private static void ripLeavesPads() {
        BoardDesk desk = Desks.busy();
        desk.rip(0);
        due.cells("pads", desk, 0, 0, 5, 120);
    }

    private static void ripLeavesOthers() {
        BoardDesk desk = Desks.busy();
        desk.rip(0);
        due.cells("net 4", desk, 4, 64, 65, 66, 67);
        desk = Desks.withPins(2);
        desk.join(0, 1);
        desk.track(0, 0, 0, 2);
        desk.track(1, 3, 0, 2);
        desk.part(0);
        due.same("rip(1), parted", desk.rip(1), 3);
        due.cells("net 0", desk, 0, 0, 1, 2);
    }

    private static void ripNoPin() {
        for (Supplier<BoardDesk> maker : List.of(NEW, BUSY, CROWDED)) {
            for (int p : new int[] {-1, 5, 16, Edges.LEAST, Edges.GREATEST}) {
                edges.leaves("rip(" + p + ")", maker, desk -> desk.rip(p), NONE);
            }
        }
    }

    private static void autoNone() {
        edges.leaves("auto(), no pins", NEW, BoardDesk::auto, 0);
        edges.leaves("auto(), none placed", () -> Desks.withPins(4), BoardDesk::auto, 0);
        Supplier<BoardDesk> apart = () -> {
            BoardDesk desk = Desks.withPins(2);
            desk.place(0, 0, 0, 3);
            desk.place(1, 5, 5, 3);
            return desk;
        };
        edges.leaves("auto(), two nets of one pin", apart, BoardDesk::auto, 0);
    }

    private static void autoOnePlaced() {
        Supplier<BoardDesk> maker = () -> {
            BoardDesk desk = Desks.withPins(4);
            desk.join(0, 1);
            desk.join(2, 3);
            desk.place(1, 0, 0, 3);
            desk.track(0, 20, 0, 3);
            desk.place(2, 5, 5, 1);
            desk.place(3, 6, 5, 1);
            return desk;
        };
        edges.leaves("auto()", maker, BoardDesk::auto, 1);
        BoardDesk desk = maker.get();
        desk.lift(3);
        due.same("auto() with none", desk.auto(), 0);
    }

    private static void autoWhole() {
        Supplier<BoardDesk> maker = () -> {
            BoardDesk desk = Desks.busy();
            desk.lift(3);
            return desk;
        };
        edges.leaves("auto()", maker, BoardDesk::auto, 1);
        due.same("auto() with a net that is open", Desks.busy().auto(), 2);
    }

    private static BoardDesk shutIn(BoardDesk desk) {
        for (int cell : new int[] {1, 12, 13, 120}) {
            desk.bar(cell, true);
        }
        return desk;
    }

    private static void autoNoWay() {
        Supplier<BoardDesk> maker = () -> shutIn(Desks.pair(0, 0, 1, 5, 5, 1));
        edges.leaves("auto()", maker, BoardDesk::auto, 0);
        BoardDesk desk = maker.get();
        desk.bar(13, false);
        due.same("auto() with a way", desk.auto(), 1);
    }

    /** Net 0 has three pins, of which one, told, is shut in at cell 0; net 3 has two. */
    private static BoardDesk threePins(int shut) {
        BoardDesk desk = Desks.withPins(5);
        desk.join(0, 1);
        desk.join(0, 2);
        desk.join(3, 4);
        desk.place(0, 5, 5, 1);
        desk.place(shut, 0, 0, 1);
        desk.place(3 - shut, 9, 5, 1);
        desk.place(3, 0, 9, 1);
        desk.place(4, 3, 9, 1);
        return shutIn(desk);
    }

    private static void autoPartly() {
        BoardDesk desk = threePins(2);
        due.same("auto()", desk.auto(), 1);
        due.cells("to pin 1", desk, 0, 0, 65, 66, 67, 68, 69);
        due.same("check(0, 2)", desk.check(0, 2), 2);
        due.same("net 3 is whole", desk.copper(109), 3);
    }

    private static void autoStops() {
        BoardDesk desk = threePins(1);
        due.same("auto()", desk.auto(), 1);
        due.cells("not to pin 2", desk, 0, 0, 65, 69);
        due.same("check(0, 2)", desk.check(0, 2), 1);
        due.same("net 3 is whole", desk.copper(109), 3);
    }

    private static void autoGoesOn() {
        // Net 0 comes first, as its sum is less, and is shut in.
        BoardDesk desk = shutIn(twoNets(0, 0, 3, 0, 0, 9, 11, 9));
        due.same("auto()", desk.auto(), 1);
        due.cells("net 0", desk, 0, 0, 3);
        due.same("net 2 is whole", desk.copper(113), 2);
    }

    private static void autoOneNet() {
        BoardDesk desk = Desks.withPins(16);
        for (int p = 1; p < 16; p++) {
            desk.join(0, p);
        }
        for (int p = 0; p < 16; p++) {
            due.yes("pin " + p, desk.place(p, p % 4 * 3, p / 4 * 3, p % 2 + 1));
        }
        due.same("check(0, 2)", desk.check(0, 2), 1);
        due.same("auto()", desk.auto(), 1);
        due.same("check(0, 0)", desk.check(0, 0), NONE);
        due.same("route(0)", desk.route(0), 0);
        due.same("undo()", desk.undo(), 15);
        due.same("check(0, 2) then", desk.check(0, 2), 1);
    }

    private static void autoManyNets() {
        // Five nets in rows 0, 2 .. 8 of layer 0, three in layer 1.
        BoardDesk desk = Desks.withPins(16);
        for (int net = 0; net < 8; net++) {
            desk.join(2 * net, 2 * net + 1);
            int layers = net < 5 ? 1 : 2;
            due.yes("left", desk.place(2 * net, 0, net % 5 * 2, layers));
            due.yes("right", desk.place(2 * net + 1, 11, net % 5 * 2, layers));
        }
        due.same("auto()", desk.auto(), 8);
        due.same("check(0, 0)", desk.check(0, 0), NONE);
        for (int net = 0; net < 8; net++) {
            int cell = (net < 5 ? 0 : 120) + 24 * (net % 5) + 5;
            due.same("copper(" + cell + ")", desk.copper(cell), 2 * net);
        }
        due.same("auto() again", desk.auto(), 8);
        due.same("undo() takes all back", desk.undo(), 15);
        due.same("copper(5)", desk.copper(5), NONE);
        due.same("copper(221)", desk.copper(221), NONE);
    }

    private static void autoOneChange() {
        Supplier<BoardDesk> maker = () -> {
            BoardDesk desk = Desks.withPins(5);
            desk.join(0, 1);
            desk.join(0, 2);
            desk.join(3, 4);
            desk.place(0, 0, 0, 1);
            desk.place(1, 6, 0, 1);
            desk.place(2, 6, 6, 2);
            desk.place(3, 11, 0, 1);
            desk.place(4, 11, 9, 3);
            return desk;
        };
        edges.changes("auto()", maker, BoardDesk::auto, 2);
    }

    /** Nets 0 and 2 of two pins each, both in layer 0. */
    private static BoardDesk twoNets(int... places) {
        BoardDesk desk = Desks.withPins(4);
        desk.join(0, 1);
        desk.join(2, 3);
        for (int p = 0; p < 4; p++) {
            due.yes("place " + p, desk.place(p, places[2 * p], places[2 * p + 1], 1));
        }
        return desk;
    }

    /** Where the ways of both nets cross, the one that is routed first has the cell in layer 0. */
    private static void crossedAt(String told, BoardDesk desk, int cell, int first) {
        due.same(told + ": auto()", desk.auto(), 2);
        due.same(told + ": copper(" + cell + ")", desk.copper(cell), first);
    }

    private static void lesserSumFirst() {
        crossedAt("9 and 11", twoNets(0, 4, 11, 4, 5, 0, 5, 9), 53, 2);
        crossedAt("9 and 8", twoNets(1, 4, 10, 4, 5, 0, 5, 8), 53, 2);
        crossedAt("8 and 9", twoNets(1, 4, 9, 4, 5, 0, 5, 9), 53, 0);
    }

    private static void columnsAndRows() {
        // Six columns against four columns and four rows, whose way is cheaper.
        crossedAt("6 and 8", twoNets(0, 2, 6, 2, 1, 0, 5, 4), 27, 0);
        crossedAt("8 and 6", twoNets(1, 0, 5, 4, 0, 2, 6, 2), 27, 2);
        crossedAt("6 and 8, rows", twoNets(3, 0, 3, 6, 1, 1, 5, 5), 39, 0);
        crossedAt("8 and 6, rows", twoNets(1, 1, 5, 5, 3, 0, 3, 6), 39, 2);
    }

    /** Nets 0, of pins 0, 1 and 4, and 2, of two pins, all in layer 0. */
    private static BoardDesk threeAndTwo(int[] columns, int[] rows, int... two) {
        BoardDesk desk = Desks.withPins(5);
        desk.join(0, 1);
        desk.join(2, 3);
        desk.join(4, 1);
        due.yes("place 0", desk.place(0, columns[0], rows[0], 1));
        due.yes("place 1", desk.place(1, columns[1], rows[1], 1));
        due.yes("place 4", desk.place(4, columns[2], rows[2], 1));
        due.yes("place 2", desk.place(2, two[0], two[1], 1));
        due.yes("place 3", desk.place(3, two[2], two[3], 1));
        return desk;
    }

    private static void greatestLessLeast() {
        // Whichever of three pins stands farthest out; the one in the middle adds nothing.
        int[][] orders = {{0, 1, 2}, {0, 2, 1}, {1, 0, 2}, {1, 2, 0}, {2, 0, 1}, {2, 1, 0}};
        for (int[] order : orders) {
            int[] near = {1, 4, 9};
            int[] far = {0, 4, 11};
            int[] deep = {0, 4, 9};
            int[] flat = {4, 4, 4};
            crossedAt("8 and 9", threeAndTwo(ordered(near, order), flat, 6, 0, 6, 9), 54, 0);
            crossedAt("11 and 9", threeAndTwo(ordered(far, order), flat, 6, 0, 6, 9), 54, 2);
            crossedAt("9 and 10", threeAndTwo(flat, ordered(deep, order), 0, 6, 10, 6), 76, 0);
            crossedAt("9 and 8", threeAndTwo(flat, ordered(deep, order), 0, 6, 8, 6), 76, 2);
        }
    }

    private static int[] ordered(int[] values, int[] order) {
        return new int[] {values[order[0]], values[order[1]], values[order[2]]};
    }

    private static void placedPinsAlone() {
        BoardDesk desk = Desks.withPins(5);
        desk.join(0, 1);
        desk.join(2, 3);
        desk.join(4, 1);
        desk.place(4, 11, 9, 1);
        desk.place(0, 1, 4, 1);
        desk.place(1, 9, 4, 1);
        desk.place(2, 5, 0, 1);
        desk.place(3, 5, 9, 1);
        desk.lift(4);
        crossedAt("a lifted pin", desk, 53, 0);
    }

    private static void lesserNetFirst() {
        crossedAt("8 and 8", twoNets(1, 4, 9, 4, 5, 0, 5, 8), 53, 0);
        crossedAt("8 and 8, the other way", twoNets(5, 0, 5, 8, 1, 4, 9, 4), 53, 0);
        // The nets are 0 and 1: their other pins come in another order.
        BoardDesk desk = Desks.withPins(4);
        desk.join(0, 3);
        desk.join(2, 1);
        desk.place(2, 1, 4, 1);
        desk.place(1, 9, 4, 1);
        desk.place(3, 5, 0, 1);
        desk.place(0, 5, 8, 1);
        crossedAt("nets 0 and 1", desk, 53, 0);
    }
}
