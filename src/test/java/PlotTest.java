/** Promises 18 to 20: plot, read, replay. */
public final class PlotTest {
    private static final Due due = new Due();

    public static void main(String[] args) {
        promise18Plot();
        promise18PlotOfManyNets();
        promise19Read();
        promise20ReplayOfThePlot();
        promise20ReplayRuns();
        promise20ReplayEnds();
        promise20ReplayWrong();
        due.finish();
    }

    private static void plotIs(String of, BoardDesk desk, int layer, int... bytes) {
        for (int i = 0; i < bytes.length; i++) {
            due.same(of + ": plot(" + layer + ", " + i + ")", desk.plot(layer, i), bytes[i]);
        }
        due.same(of + ": plot behind its end", desk.plot(layer, bytes.length), -1);
        due.same(of + ": plot far behind its end", desk.plot(layer, Integer.MAX_VALUE), -1);
    }

    private static void promise18Plot() {
        BoardDesk desk = Desks.withPins(3);
        due.same("plot(2, 0)", desk.plot(2, 0), -1);
        due.same("plot(-1, 0)", desk.plot(-1, 0), -1);
        due.same("plot(0, -1)", desk.plot(0, -1), -1);
        due.same("plot(0, least int)", desk.plot(0, Integer.MIN_VALUE), -1);
        plotIs("empty", desk, 0, 255);
        desk.place(1, 3, 2, 3);
        desk.track(1, 27, 0, 2);
        desk.track(2, 36 + 8, 0, 3);
        desk.track(2, 48, 0, 1);
        desk.bar(0, true);
        plotIs("layer 0", desk, 0, 2, 3, 3, 2, 3, 8, 4, 3, 4, 0, 2, 3, 255);
        plotIs("layer 1", desk, 1, 2, 3, 1, 2, 255);
    }

    private static void promise18PlotOfManyNets() {
        // A full row of one net, cut into four when the joints go.
        BoardDesk desk = Desks.withPins(16);
        desk.join(0, 15);
        desk.join(15, 7);
        desk.track(0, 228, 0, 11);
        plotIs("a full row", desk, 1, 9, 0, 12, 1, 255);
        desk.track(15, 230, 0, 3);
        desk.track(7, 234, 0, 3);
        plotIs("of one net", desk, 1, 9, 0, 12, 1, 255);
        desk.part(0);
        plotIs("of two nets", desk, 1, 9, 0, 2, 1, 9, 2, 8, 8, 9, 10, 2, 1, 255);
        desk.part(0);
        plotIs("of three nets", desk, 1, 9, 0, 2, 1, 9, 2, 4, 16, 9, 6, 4, 8, 9, 10, 2, 1, 255);
    }

    private static void promise19Read() {
        BoardDesk desk = new BoardDesk();
        due.same("read(-1)", desk.read(-1), -1);
        due.same("read(256)", desk.read(256), -1);
        due.same("read(least int)", desk.read(Integer.MIN_VALUE), -1);
        for (int count = 1; count <= 400; count++) {
            due.same("read " + count, desk.read(count % 256), count);
        }
        due.same("read 401", desk.read(1), -2);
        due.same("read 401 of no byte", desk.read(256), -1);
        due.same("read is no change", desk.undo(), -1);
        desk.replay(0);
        due.same("read after replay", desk.read(255), 1);
    }

    private static void promise20ReplayOfThePlot() {
        BoardDesk desk = Desks.withPins(4);
        desk.place(1, 3, 2, 3);
        desk.track(1, 27, 0, 5);
        desk.track(3, 60, 1, 4);
        for (int i = 0; i < 50 && desk.plot(0, i) != -1; i++) {
            desk.read(desk.plot(0, i));
        }
        due.same("replay of the plot", desk.replay(0), 0);
        due.same("replay of nothing", desk.replay(0), 11);
        due.same("replay of nothing, layer 1", desk.replay(1), 1);
        for (int i = 0; i < 50 && desk.plot(0, i) != -1; i++) {
            desk.read(desk.plot(0, i));
        }
        due.same("replay against the other layer", desk.replay(1), 10);
    }

    private static int replayed(BoardDesk desk, int layer, int... bytes) {
        for (int value : bytes) {
            desk.read(value);
        }
        return desk.replay(layer);
    }

    private static void promise20ReplayRuns() {
        BoardDesk desk = Desks.withPins(1);
        desk.track(0, 0, 0, 3);
        due.same("the same", replayed(desk, 0, 0, 0, 4, 1), 0);
        due.same("another net", replayed(desk, 0, 0, 0, 4, 2), 4);
        due.same("net 254", replayed(desk, 0, 0, 0, 4, 255), 4);
        due.same("one too many", replayed(desk, 0, 0, 0, 5, 1), 1);
        due.same("no cells", replayed(desk, 0, 0, 0, 0, 1), 4);
        due.same("past the row's end", replayed(desk, 0, 0, 0, 4, 1, 3, 10, 255, 1), 2);
        due.same("past the columns", replayed(desk, 0, 0, 0, 4, 1, 3, 12, 5, 1), 0);
        due.same("last column", replayed(desk, 0, 0, 0, 4, 1, 3, 11, 5, 1), 1);
        due.same("column 255", replayed(desk, 0, 0, 0, 4, 1, 3, 255, 255, 1), 0);
        due.same("row 10", replayed(desk, 0, 0, 0, 4, 1, 10, 0, 5, 1), 0);
        due.same("row 9", replayed(desk, 0, 0, 0, 4, 1, 9, 0, 5, 1), 5);
        due.same("row 254", replayed(desk, 0, 254, 0, 9, 1, 0, 0, 4, 1), 0);
        due.same("the last run counts", replayed(desk, 0, 0, 0, 12, 3, 0, 0, 4, 1, 0, 4, 8, 0), 0);
        due.same("a run of none", replayed(desk, 0, 0, 0, 4, 1, 0, 1, 2, 0), 2);
        due.same("in layer 1", replayed(desk, 1, 0, 0, 4, 1), 4);
    }

    private static void promise20ReplayEnds() {
        BoardDesk desk = Desks.withPins(1);
        desk.track(0, 0, 0, 3);
        due.same("255 at once", replayed(desk, 0, 255, 0, 0, 4, 1), 4);
        due.same("255 behind a run", replayed(desk, 0, 0, 0, 4, 1, 255, 0, 0, 1, 0), 0);
        due.same("nothing goes on from there",
                replayed(desk, 0, 0, 0, 4, 1, 255, 1, 0, 4, 1, 1, 0, 4, 1), 0);
        due.same("nor from the next four on",
                replayed(desk, 0, 0, 0, 4, 1, 255, 0, 0, 0, 1, 0, 4, 1), 0);
        due.same("255 as the first column", replayed(desk, 0, 0, 255, 1, 1, 0, 0, 4, 1), 0);
        due.same("255 as a number of cells", replayed(desk, 0, 0, 0, 255, 1), 8);
        due.same("one byte at the end", replayed(desk, 0, 0, 0, 4, 1, 0), 0);
        due.same("two bytes at the end", replayed(desk, 0, 0, 0, 4, 1, 0, 0), 0);
        due.same("three bytes at the end", replayed(desk, 0, 0, 0, 4, 1, 0, 0, 9), 0);
        due.same("three bytes alone", replayed(desk, 0, 0, 0, 4), 4);
        int[] full = new int[400];
        for (int at = 0; at < 400; at += 4) {
            full[at + 3] = at == 396 ? 1 : 9;
            full[at + 2] = at == 396 ? 4 : 0;
        }
        due.same("all 400 bytes", replayed(desk, 0, full), 0);
    }

    private static void promise20ReplayWrong() {
        BoardDesk desk = Desks.withPins(1);
        desk.read(0);
        desk.read(0);
        due.same("replay(2)", desk.replay(2), -1);
        due.same("replay(-1)", desk.replay(-1), -1);
        due.same("read goes on", desk.read(1), 3);
        desk.read(1);
        due.same("replay(0)", desk.replay(0), 1);
        due.same("read starts anew", desk.read(1), 1);
        due.same("replay is no change", desk.undo(), 0);
        due.same("read goes on after undo()", desk.read(1), 2);
    }
}
