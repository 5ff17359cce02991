import java.util.List;
import java.util.function.Supplier;

/** Promises 18 to 20, sentence by sentence: plot, read, replay. */
public final class PlotEdgesTest {
    private static final int NONE = -1;
    private static final int FULL = -2;

    private static final Supplier<BoardDesk> NEW = BoardDesk::new;
    private static final Supplier<BoardDesk> BUSY = Desks::busy;
    private static final Supplier<BoardDesk> CROWDED = Desks::crowded;
    private static final Supplier<BoardDesk> ALL_READ = PlotEdgesTest::allRead;

    private static final Edges edges = new Edges();
    private static final Due due = edges.due;

    public static void main(String[] args) {
        plot();
        read();
        replayAnswers();
        replayRuns();
        edges.finish();
    }

    private static void plot() {
        edges.holds("18: byte i, from 0", PlotEdgesTest::plotBytes);
        edges.holds("18: NONE when there is no such layer", PlotEdgesTest::plotNoLayer);
        edges.holds("18: NONE when there is no byte i", PlotEdgesTest::plotNoByte);
        edges.holds("Terms: 255 at the end: an empty layer", PlotEdgesTest::plotEmpty);
        edges.holds("Terms: runs as long as can be: a full row", PlotEdgesTest::plotFullRow);
        edges.holds("Terms: runs of one net, of several pins", PlotEdgesTest::plotOneNet);
        edges.holds("Terms: runs of one row", PlotEdgesTest::plotRowEnds);
        edges.holds("Terms: runs of cells beside each other", PlotEdgesTest::plotGaps);
        edges.holds("Terms: row by row, from left to right", PlotEdgesTest::plotOrder);
        edges.holds("Terms: the net plus 1: 1 to 16", PlotEdgesTest::plotNets);
        edges.holds("Terms: the longest plot", PlotEdgesTest::plotLongest);
        edges.holds("Terms: joints change the plot", PlotEdgesTest::plotByJoints);
    }

    private static void read() {
        edges.holds("19: how many there are, bytes 0 to 255", PlotEdgesTest::readBytes);
        edges.holds("19: NONE, refused, when it is not 0 .. 255", PlotEdgesTest::readNoByte);
        edges.holds("19: FULL when there are 400", PlotEdgesTest::readFull);
        edges.holds("19: no byte is NONE when there are 400, too", PlotEdgesTest::readFullNoByte);
        edges.holds("21: read is no change and is not taken back", PlotEdgesTest::readAndUndo);
    }

    private static void replayAnswers() {
        edges.holds("20: NONE, and nothing happens: no such layer", PlotEdgesTest::replayNoLayer);
        edges.holds("20: nothing was read", PlotEdgesTest::replayNothing);
        edges.holds("20: in how many cells they differ", PlotEdgesTest::replayDiffers);
        edges.holds("20: nothing is read any more then", PlotEdgesTest::replayEmpties);
        edges.holds("20: the board stays", PlotEdgesTest::replayLeavesBoard);
        edges.holds("20: of a layer's own plot", PlotEdgesTest::replayOwnPlot);
    }

    private static void replayRuns() {
        edges.holds("20: up to the first 255 where a row is due", PlotEdgesTest::replayStops);
        edges.holds("20: 255 elsewhere is a byte", PlotEdgesTest::replayGoesOn);
        edges.holds("20: or the end", PlotEdgesTest::replayEnd);
        edges.holds("20: fewer at the end are nothing", PlotEdgesTest::replayFewer);
        edges.holds("20: cells not in the layer: rows", PlotEdgesTest::replayRows);
        edges.holds("20: cells not in the layer: columns", PlotEdgesTest::replayColumns);
        edges.holds("20: a run of no cells", PlotEdgesTest::replayNoCells);
        edges.holds("20: of several runs the last one counts", PlotEdgesTest::replayLastRun);
        edges.holds("20: a net plus 1 of 0 is none", PlotEdgesTest::replayNoNet);
        edges.holds("20: nets that there are not", PlotEdgesTest::replayOtherNets);
        edges.holds("20: all of 400 bytes", PlotEdgesTest::replayAllBytes);
    }

    private static void plotIs(String told, BoardDesk desk, int layer, int... bytes) {
        for (int i = 0; i < bytes.length; i++) {
            due.same(told + ": plot(" + layer + ", " + i + ")", desk.plot(layer, i), bytes[i]);
        }
        due.same(told + ": plot behind its end", desk.plot(layer, bytes.length), NONE);
    }

    private static void plotBytes() {
        int[] wanted = {0, 0, 6, 1, 5, 4, 4, 5, 9, 11, 1, 3, 255};
        for (int i = 0; i < wanted.length; i++) {
            int at = i;
            edges.leaves("plot(0, " + i + ")", BUSY, desk -> desk.plot(0, at), wanted[i]);
        }
        plotIs("layer 1", Desks.busy(), 1, 0, 0, 1, 1, 5, 0, 1, 3, 255);
    }

    private static void plotNoLayer() {
        for (Supplier<BoardDesk> maker : List.of(NEW, BUSY)) {
            for (int layer : new int[] {-1, 2, 3, Edges.LEAST, Edges.GREATEST}) {
                edges.leaves("plot(" + layer + ", 0)", maker, desk -> desk.plot(layer, 0), NONE);
            }
        }
    }

    private static void plotNoByte() {
        for (int i : new int[] {-1, -4, 13, 14, 16, 17, Edges.LEAST, Edges.GREATEST}) {
            edges.leaves("plot(0, " + i + ")", BUSY, desk -> desk.plot(0, i), NONE);
        }
        for (int i : new int[] {-1, 1, 4, Edges.GREATEST}) {
            edges.leaves("plot(1, " + i + ")", NEW, desk -> desk.plot(1, i), NONE);
        }
    }

    private static void plotEmpty() {
        plotIs("new", new BoardDesk(), 0, 255);
        plotIs("new", new BoardDesk(), 1, 255);
        BoardDesk desk = Desks.withPins(1);
        desk.place(0, 0, 0, 1);
        desk.bar(239, true);
        plotIs("the other layer", desk, 1, 255);
        desk.lift(0);
        plotIs("lifted", desk, 0, 255);
    }

    private static void plotFullRow() {
        for (int row = 0; row < 20; row += 19) {
            BoardDesk desk = Desks.withPins(1);
            desk.track(0, 12 * row, 0, 11);
            plotIs("row " + row, desk, row / 10, row % 10, 0, 12, 1, 255);
        }
        BoardDesk desk = Desks.withPins(1);
        desk.track(0, 0, 0, 10);
        plotIs("but the last", desk, 0, 0, 0, 11, 1, 255);
        desk = Desks.withPins(1);
        desk.track(0, 1, 0, 10);
        plotIs("but the first", desk, 0, 0, 1, 11, 1, 255);
    }

    private static void plotOneNet() {
        BoardDesk desk = Desks.withPins(4);
        desk.join(1, 2);
        desk.join(2, 3);
        desk.track(3, 40, 0, 1);
        desk.track(1, 42, 0, 1);
        desk.place(2, 8, 3, 1);
        plotIs("pads and copper", desk, 0, 3, 4, 5, 2, 255);
    }

    private static void plotRowEnds() {
        BoardDesk desk = Desks.withPins(1);
        desk.track(0, 10, 0, 1);
        desk.track(0, 12, 0, 1);
        desk.track(0, 118, 0, 1);
        desk.track(0, 120, 0, 1);
        plotIs("layer 0", desk, 0, 0, 10, 2, 1, 1, 0, 2, 1, 9, 10, 2, 1, 255);
        plotIs("layer 1", desk, 1, 0, 0, 2, 1, 255);
    }

    private static void plotGaps() {
        BoardDesk desk = Desks.withPins(1);
        desk.track(0, 0, 0, 4);
        desk.erase(2);
        plotIs("a cell without copper", desk, 0, 0, 0, 2, 1, 0, 3, 2, 1, 255);
        desk.bar(2, true);
        plotIs("a barred cell", desk, 0, 0, 0, 2, 1, 0, 3, 2, 1, 255);
    }

    private static void plotOrder() {
        BoardDesk desk = Desks.withPins(2);
        desk.track(0, 119, 0, 0);
        desk.track(0, 108, 0, 0);
        desk.track(1, 60, 0, 0);
        desk.track(0, 65, 0, 1);
        desk.track(1, 0, 0, 0);
        plotIs("order", desk, 0, 0, 0, 1, 2, 5, 0, 1, 2, 5, 5, 2, 1, 9, 0, 1, 1, 9, 11, 1, 1, 255);
    }

    private static void plotNets() {
        BoardDesk desk = Desks.withPins(16);
        desk.track(15, 0, 0, 0);
        desk.track(0, 239, 0, 0);
        plotIs("net 15", desk, 0, 0, 0, 1, 16, 255);
        plotIs("net 0", desk, 1, 9, 11, 1, 1, 255);
    }

    /** Each cell of a layer belongs to another net than those beside it. */
    private static BoardDesk checkered(int layer) {
        BoardDesk desk = Desks.withPins(2);
        desk.join(0, 1);
        for (int row = 0; row < 10; row++) {
            desk.track(0, 120 * layer + 12 * row, 0, 11);
            for (int column = 1; column < 12; column += 2) {
                desk.track(1, 120 * layer + 12 * row + column, 0, 0);
            }
        }
        desk.part(0);
        return desk;
    }

    private static void plotLongest() {
        for (int layer = 0; layer < 2; layer++) {
            for (int from = 0; from < 480; from += 240) {
                BoardDesk desk = checkered(layer);
                for (int i = from; i < from + 240; i += 4) {
                    int column = i / 4 % 12;
                    due.same("plot(.., " + i + "), row", desk.plot(layer, i), i / 48);
                    due.same("plot, column", desk.plot(layer, i + 1), column);
                    due.same("plot, how many", desk.plot(layer, i + 2), 1);
                    due.same("plot, net plus 1", desk.plot(layer, i + 3), column % 2 + 1);
                }
                due.same("plot(.., 480)", desk.plot(layer, 480), 255);
                due.same("plot(.., 481)", desk.plot(layer, 481), NONE);
                due.same("the other layer", desk.plot(1 - layer, 0), 255);
            }
        }
    }

    private static void plotByJoints() {
        BoardDesk desk = Desks.withPins(3);
        desk.join(1, 2);
        desk.track(1, 0, 0, 2);
        desk.track(2, 3, 0, 2);
        plotIs("joined", desk, 0, 0, 0, 6, 2, 255);
        desk.part(0);
        plotIs("parted", desk, 0, 0, 0, 3, 2, 0, 3, 3, 3, 255);
        desk.join(0, 2);
        plotIs("joined to another", desk, 0, 0, 0, 3, 2, 0, 3, 3, 1, 255);
    }

    private static BoardDesk withRow() {
        BoardDesk desk = Desks.withPins(1);
        desk.track(0, 0, 0, 3);
        return desk;
    }

    /** A hundred cells and a hundred runs of one cell each that tell of them. */
    private static BoardDesk allRead() {
        BoardDesk desk = Desks.withPins(1);
        for (int row = 0; row < 8; row++) {
            desk.track(0, 12 * row, 0, 11);
        }
        desk.track(0, 96, 0, 3);
        for (int cell = 0; cell < 100; cell++) {
            Desks.readAll(desk, cell / 12, cell % 12, 1, 1);
        }
        return desk;
    }

    private static void readBytes() {
        BoardDesk desk = new BoardDesk();
        for (int value = 0; value < 256; value++) {
            due.same("read(" + value + ")", desk.read(value), value + 1);
        }
    }

    private static void readNoByte() {
        for (Supplier<BoardDesk> maker : List.of(NEW, BUSY)) {
            for (int value : new int[] {-1, 256, 257, 511, Edges.LEAST, Edges.GREATEST}) {
                edges.leaves("read(" + value + ")", maker, desk -> desk.read(value), NONE);
            }
        }
    }

    private static void readFull() {
        BoardDesk desk = new BoardDesk();
        for (int count = 1; count <= 400; count++) {
            due.same("read " + count, desk.read(1), count);
        }
        due.same("read 401", desk.read(1), FULL);
        due.same("read 402", desk.read(0), FULL);
        edges.leaves("read(0)", ALL_READ, full -> full.read(0), FULL);
        edges.leaves("read(255)", ALL_READ, full -> full.read(255), FULL);
    }

    private static void readFullNoByte() {
        edges.leaves("read(-1)", ALL_READ, desk -> desk.read(-1), NONE);
        edges.leaves("read(256)", ALL_READ, desk -> desk.read(256), NONE);
    }

    private static void readAndUndo() {
        BoardDesk desk = Desks.withPins(2);
        desk.read(0);
        due.same("undo() of a pin", desk.undo(), 1);
        due.same("read(0)", desk.read(0), 2);
        due.same("undo() of the other pin", desk.undo(), 0);
        due.same("undo() of nothing", desk.undo(), NONE);
        due.same("read(0) again", desk.read(0), 3);
        desk.replay(0);
        due.same("undo() of nothing after replay", desk.undo(), NONE);
        due.same("what was read does not come back", desk.read(0), 1);
    }

    private static void replayNoLayer() {
        for (Supplier<BoardDesk> maker : List.of(NEW, BUSY, CROWDED)) {
            for (int layer : new int[] {-1, 2, 3, Edges.LEAST, Edges.GREATEST}) {
                edges.leaves("replay(" + layer + ")", maker, desk -> desk.replay(layer), NONE);
            }
        }
        edges.leaves("replay(2) when full", ALL_READ, desk -> desk.replay(2), NONE);
    }

    private static void replayNothing() {
        edges.leaves("replay(0), a new desk", NEW, desk -> desk.replay(0), 0);
        edges.leaves("replay(1), a new desk", NEW, desk -> desk.replay(1), 0);
        edges.leaves("replay(0)", PlotEdgesTest::withRow, desk -> desk.replay(0), 4);
        edges.leaves("replay(1)", PlotEdgesTest::withRow, desk -> desk.replay(1), 0);
    }

    /** Cells 0 to 3 belong to net 0, cell 239 to net 1. */
    private static int replayed(int layer, int... bytes) {
        BoardDesk desk = Desks.withPins(2);
        desk.track(0, 0, 0, 3);
        desk.track(1, 239, 0, 0);
        Desks.readAll(desk, bytes);
        return desk.replay(layer);
    }

    private static void replayDiffers() {
        due.same("the same", replayed(0, 0, 0, 4, 1), 0);
        due.same("net and none", replayed(0, 0, 0, 3, 1), 1);
        due.same("none and net", replayed(0, 0, 0, 5, 1), 1);
        due.same("net and another one", replayed(0, 0, 0, 4, 2), 4);
        due.same("both ways", replayed(0, 0, 2, 4, 1), 4);
        due.same("the last cell", replayed(1, 9, 11, 1, 2), 0);
        due.same("not the last cell", replayed(1, 9, 10, 1, 2), 2);
        due.same("the other layer's", replayed(1, 0, 0, 4, 1), 5);
        int[] all = new int[40];
        for (int row = 0; row < 10; row++) {
            all[4 * row] = row;
            all[4 * row + 2] = 12;
            all[4 * row + 3] = 3;
        }
        due.same("all cells", replayed(0, all), 120);
    }

    private static void replayEmpties() {
        BoardDesk desk = allRead();
        due.same("read(0) when full", desk.read(0), FULL);
        due.same("replay(0) when full", desk.replay(0), 0);
        due.same("read(0)", desk.read(0), 1);
        due.same("replay(0), nothing of before", desk.replay(0), 100);
        desk = withRow();
        Desks.readAll(desk, 0, 0, 4, 1);
        due.same("replay(0)", desk.replay(0), 0);
        due.same("replay(0) again", desk.replay(0), 4);
        // Bytes before must not be seen behind fewer new ones.
        Desks.readAll(desk, 0, 0);
        due.same("replay(0) of two bytes", desk.replay(0), 4);
        Desks.readAll(desk, 0, 0, 4, 1, 1, 0, 12, 1);
        desk.replay(1);
        Desks.readAll(desk, 0, 0, 4, 1);
        due.same("replay(0) of one run", desk.replay(0), 0);
    }

    private static void replayLeavesBoard() {
        for (int layer = 0; layer < 2; layer++) {
            int of = layer;
            edges.leaves("replay(" + layer + ") and the same read again", BUSY, desk -> {
                int differing = desk.replay(of);
                Desks.readAll(desk, 0, 0, 6, 1, 9);
                return differing;
            }, layer == 0 ? 5 : 6);
        }
    }

    private static void replayOwnPlot() {
        for (int layer = 0; layer < 2; layer++) {
            BoardDesk desk = Desks.busy();
            desk.replay(0);
            for (int i = 0; i < 20 && desk.plot(layer, i) != NONE; i++) {
                desk.read(desk.plot(layer, i));
            }
            due.same("replay(" + layer + ")", desk.replay(layer), 0);
        }
    }

    private static void replayStops() {
        due.same("at once", replayed(0, 255), 4);
        due.same("at once, a run behind it", replayed(0, 255, 0, 0, 4, 1), 4);
        due.same("at once, four behind", replayed(0, 255, 0, 0, 0, 0, 0, 4, 1), 4);
        due.same("behind a run", replayed(0, 0, 0, 4, 1, 255), 0);
        due.same("behind a run, one more", replayed(0, 0, 0, 4, 1, 255, 1, 0, 9, 1), 0);
        due.same("behind it, as four", replayed(0, 0, 0, 4, 1, 255, 0, 9, 1, 1, 0, 9, 1), 0);
        due.same("the first of two", replayed(0, 0, 0, 4, 1, 255, 255, 255, 255, 0, 0, 9, 1), 0);
        due.same("254 is no end", replayed(0, 254, 0, 0, 1, 0, 0, 4, 1), 0);
    }

    private static void replayGoesOn() {
        due.same("as column", replayed(0, 0, 255, 1, 1, 0, 0, 4, 1), 0);
        due.same("as how many", replayed(0, 0, 0, 255, 1), 8);
        due.same("as how many, and on", replayed(0, 0, 0, 255, 1, 0, 4, 8, 0), 0);
        due.same("as net plus 1", replayed(0, 0, 0, 4, 255), 4);
        due.same("as net plus 1, and on", replayed(0, 0, 0, 4, 255, 0, 0, 4, 1), 0);
        due.same("as all but the row", replayed(0, 3, 255, 255, 255, 0, 0, 4, 1), 0);
    }

    private static void replayEnd() {
        due.same("one run", replayed(0, 0, 0, 4, 1), 0);
        due.same("two runs", replayed(0, 0, 0, 2, 1, 0, 2, 2, 1), 0);
    }

    private static void replayFewer() {
        due.same("one", replayed(0, 0, 0, 4, 1, 0), 0);
        due.same("two", replayed(0, 0, 0, 4, 1, 0, 0), 0);
        due.same("three", replayed(0, 0, 0, 4, 1, 0, 0, 9), 0);
        due.same("one alone", replayed(0, 0), 4);
        due.same("three alone", replayed(0, 0, 0, 4), 4);
    }

    private static void replayRows() {
        due.same("row 9", replayed(0, 0, 0, 4, 1, 9, 0, 12, 1), 12);
        due.same("row 10", replayed(0, 0, 0, 4, 1, 10, 0, 12, 1), 0);
        due.same("row 10 against layer 1", replayed(1, 9, 11, 1, 2, 10, 0, 12, 1), 0);
        due.same("row 254", replayed(0, 0, 0, 4, 1, 254, 0, 255, 1), 0);
    }

    private static void replayColumns() {
        due.same("column 11", replayed(0, 0, 0, 4, 1, 3, 11, 1, 1), 1);
        due.same("column 12", replayed(0, 0, 0, 4, 1, 3, 12, 1, 1), 0);
        due.same("column 255", replayed(0, 0, 0, 4, 1, 3, 255, 255, 1), 0);
        due.same("from column 11 on", replayed(0, 0, 0, 4, 1, 3, 11, 2, 1), 1);
        due.same("from column 10 on", replayed(0, 0, 0, 4, 1, 3, 10, 255, 1), 2);
        due.same("past a full row", replayed(0, 0, 0, 4, 1, 3, 0, 13, 1), 12);
        due.same("past the last row", replayed(0, 0, 0, 4, 1, 9, 11, 255, 1), 1);
    }

    private static void replayNoCells() {
        due.same("no cells", replayed(0, 0, 0, 4, 1, 0, 0, 0, 2), 0);
        due.same("no cells behind the row", replayed(0, 0, 0, 4, 1, 0, 12, 0, 2), 0);
        due.same("one cell", replayed(0, 0, 0, 4, 1, 0, 0, 1, 2), 1);
    }

    private static void replayLastRun() {
        due.same("another net before", replayed(0, 0, 0, 4, 2, 0, 0, 4, 1), 0);
        due.same("another net behind", replayed(0, 0, 0, 4, 1, 0, 0, 4, 2), 4);
        due.same("in part", replayed(0, 0, 0, 4, 1, 0, 2, 1, 2), 1);
        due.same("three runs", replayed(0, 0, 0, 4, 2, 0, 0, 4, 3, 0, 0, 4, 1), 0);
    }

    private static void replayNoNet() {
        due.same("where there is a net", replayed(0, 0, 0, 4, 0), 4);
        due.same("where there is none", replayed(0, 0, 0, 4, 1, 5, 0, 12, 0), 0);
        due.same("behind a net", replayed(0, 0, 0, 12, 1, 0, 4, 8, 0), 0);
        due.same("before a net", replayed(0, 0, 0, 12, 0, 0, 0, 4, 1), 0);
    }

    private static void replayOtherNets() {
        due.same("net 1", replayed(0, 0, 0, 4, 1, 5, 0, 3, 2), 3);
        due.same("net 15", replayed(0, 0, 0, 4, 1, 5, 0, 3, 16), 3);
        due.same("net 254", replayed(0, 0, 0, 4, 1, 5, 0, 3, 255), 3);
        due.same("net 254 over net 0", replayed(0, 0, 0, 4, 255), 4);
    }

    private static void replayAllBytes() {
        // The last of a hundred runs puts right what the first ones spoil.
        int[] all = new int[400];
        for (int at = 0; at < 400; at += 4) {
            all[at + 2] = at < 396 ? 12 : 4;
            all[at + 3] = at < 392 ? 2 : at < 396 ? 0 : 1;
        }
        due.same("a hundred runs", replayed(0, all), 0);
    }
}
