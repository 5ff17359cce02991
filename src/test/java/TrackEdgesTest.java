import java.util.List;
import java.util.function.Supplier;

/** Promises 11, 12 and 16, sentence by sentence: track, erase, copper. */
public final class TrackEdgesTest {
    private static final int NONE = -1;
    private static final int[] RIGHT = {1, 1, 0, -1, -1, -1, 0, 1};
    private static final int[] DOWN = {0, 1, 1, 1, 0, -1, -1, -1};

    private static final Supplier<BoardDesk> NEW = BoardDesk::new;
    private static final Supplier<BoardDesk> BUSY = Desks::busy;
    private static final Supplier<BoardDesk> CROWDED = Desks::crowded;
    private static final Supplier<BoardDesk> PIN = () -> Desks.withPins(1);

    private static final Edges edges = new Edges();
    private static final Due due = edges.due;

    public static void main(String[] args) {
        trackLaid();
        trackRefused();
        erase();
        copper();
        edges.finish();
    }

    private static void trackLaid() {
        edges.holds("11: directions 0 to 7", TrackEdgesTest::trackDirections);
        edges.holds("11: 8 for the other layer", TrackEdgesTest::trackOtherLayer);
        edges.holds("11: length 0 is one cell", TrackEdgesTest::trackOneCell);
        edges.holds("11: length 11", TrackEdgesTest::trackLongest);
        edges.holds("11: how many were no copper and no pad before", TrackEdgesTest::trackCounts);
        edges.holds("11: pads stay pads", TrackEdgesTest::trackPadsStay);
        edges.holds("11: copper of the net is laid anew for this pin", TrackEdgesTest::trackAnew);
        edges.holds("11: laid for a pin that is not placed", TrackEdgesTest::trackNotPlaced);
    }

    private static void trackRefused() {
        edges.holds("11: NONE, refused: no such pin", TrackEdgesTest::trackNoPin);
        edges.holds("11: NONE, refused: no such cell", TrackEdgesTest::trackNoCell);
        edges.holds("11: NONE, refused: no such direction", TrackEdgesTest::trackNoDirection);
        edges.holds("11: NONE, refused: length is not 0 .. 11", TrackEdgesTest::trackNoLength);
        edges.holds("11: NONE, refused: for 8 length is not 0 or 1", TrackEdgesTest::trackTooDeep);
        edges.holds("11: NONE, refused: the board ends", TrackEdgesTest::trackBoardEnds);
        edges.holds("11: NONE, refused: the board ends, rows don't wrap", TrackEdgesTest::trackWrap);
        edges.holds("11: NONE, refused: a cell is barred", TrackEdgesTest::trackBarred);
        edges.holds("11: NONE, refused: a cell is not free", TrackEdgesTest::trackNear);
        edges.holds("11: NONE, refused: its pad is not free", TrackEdgesTest::trackPadNotFree);
    }

    private static void erase() {
        edges.holds("12: copper of a cell goes", TrackEdgesTest::eraseCopper);
        edges.holds("12: the first and the last cell", TrackEdgesTest::eraseEnds);
        edges.holds("12: whether there was some: none", TrackEdgesTest::eraseNone);
        edges.holds("12: whether there was some: a pad", TrackEdgesTest::erasePad);
        edges.holds("12: whether there was some: barred", TrackEdgesTest::eraseBarred);
        edges.holds("12: whether there was some: no such cell", TrackEdgesTest::eraseNoCell);
    }

    private static void copper() {
        edges.holds("16: the net to which a cell belongs", TrackEdgesTest::copperNet);
        edges.holds("16: NONE when there is none", TrackEdgesTest::copperNone);
        edges.holds("16: NONE when there is no such cell", TrackEdgesTest::copperNoCell);
        edges.holds("Terms: joints change the net of a cell", TrackEdgesTest::copperByJoints);
    }

    private static void trackFails(
            Supplier<BoardDesk> maker, int p, int cell, int direction, int length) {
        String told = "track(" + p + ", " + cell + ", " + direction + ", " + length + ")";
        edges.leaves(told, maker, desk -> desk.track(p, cell, direction, length), NONE);
    }

    private static void trackDirections() {
        for (int direction = 0; direction < 8; direction++) {
            int way = direction;
            BoardDesk desk = Desks.withPins(1);
            due.same("track(0, 185, " + direction + ", 3)", desk.track(0, 185, direction, 3), 4);
            int step = 12 * DOWN[direction] + RIGHT[direction];
            due.cells("direction " + direction, desk, 0,
                    185, 185 + step, 185 + 2 * step, 185 + 3 * step);
            edges.changes("direction " + direction, PIN, one -> one.track(0, 185, way, 4), 5);
        }
    }

    private static void trackOtherLayer() {
        BoardDesk desk = Desks.withPins(1);
        due.same("track(0, 119, 8, 1)", desk.track(0, 119, 8, 1), 2);
        due.cells("down", desk, 0, 119, 239);
        desk = Desks.withPins(1);
        due.same("track(0, 120, 8, 1)", desk.track(0, 120, 8, 1), 2);
        due.cells("up", desk, 0, 0, 120);
        edges.changes("track(4, 64, 8, 1)", BUSY, busy -> busy.track(4, 64, 8, 1), 1);
    }

    private static void trackOneCell() {
        for (int direction = 0; direction <= 8; direction++) {
            for (int cell : new int[] {0, 11, 108, 119, 120, 131, 228, 239}) {
                BoardDesk desk = Desks.withPins(1);
                due.same("track(0, " + cell + ", ..)", desk.track(0, cell, direction, 0), 1);
                due.cells("cell " + cell + ", direction " + direction, desk, 0, cell);
            }
        }
    }

    private static void trackLongest() {
        BoardDesk desk = Desks.withPins(1);
        due.same("track(0, 0, 0, 11)", desk.track(0, 0, 0, 11), 12);
        due.same("track(0, 239, 4, 11)", desk.track(0, 239, 4, 11), 12);
        due.cells("both", desk, 0, 0, 1, 2, 3, 4, 5, 6, 7, 8, 9, 10, 11,
                228, 229, 230, 231, 232, 233, 234, 235, 236, 237, 238, 239);
    }

    private static void trackCounts() {
        // Cells 0 and 5 are pads, 1 to 4 copper of net 0, 6 to 8 nothing.
        edges.leaves("over a pad", BUSY, desk -> desk.track(0, 0, 0, 0), 0);
        edges.leaves("over copper of the pin", BUSY, desk -> desk.track(1, 1, 0, 3), 0);
        edges.changes("over pads, copper and nothing", BUSY, desk -> desk.track(0, 0, 0, 8), 3);
        edges.changes("over nothing", BUSY, desk -> desk.track(0, 6, 0, 2), 3);
    }

    private static void trackPadsStay() {
        BoardDesk desk = Desks.busy();
        desk.track(1, 0, 0, 6);
        due.no("erase(0)", desk.erase(0));
        due.no("erase(5)", desk.erase(5));
        due.yes("erase(6)", desk.erase(6));
        desk.part(0);
        due.same("copper(0), the pad of pin 0", desk.copper(0), 0);
        due.same("copper(1)", desk.copper(1), 1);
        due.yes("lift(0)", desk.lift(0));
        due.same("copper(0), nothing", desk.copper(0), NONE);
    }

    private static void trackAnew() {
        edges.changes("track(0, 1, 0, 3)", BUSY, desk -> desk.track(0, 1, 0, 3), 0);
        BoardDesk desk = Desks.busy();
        due.same("track(0, 2, 0, 1)", desk.track(0, 2, 0, 1), 0);
        desk.part(0);
        due.same("copper(1), of pin 1", desk.copper(1), 1);
        due.same("copper(2), of pin 0 then", desk.copper(2), 0);
        due.same("copper(3), of pin 0 then", desk.copper(3), 0);
        due.same("copper(4), of pin 1", desk.copper(4), 1);
    }

    private static void trackNotPlaced() {
        edges.changes("track(4, 69, 0, 2)", BUSY, desk -> desk.track(4, 69, 0, 2), 3);
        due.same("one pin, nothing placed", Desks.withPins(1).track(0, 0, 0, 2), 3);
    }

    private static void trackNoPin() {
        for (int p : new int[] {-1, 5, 16, Edges.LEAST, Edges.GREATEST}) {
            trackFails(BUSY, p, 70, 0, 1);
        }
        trackFails(CROWDED, 5, 70, 0, 1);
        trackFails(NEW, 0, 0, 0, 0);
    }

    private static void trackNoCell() {
        for (int cell : new int[] {-1, -12, 240, 251, Edges.LEAST, Edges.GREATEST}) {
            trackFails(BUSY, 4, cell, 0, 0);
            trackFails(PIN, 0, cell, 8, 1);
        }
        trackFails(PIN, 0, -1, 0, 1);
        trackFails(PIN, 0, 240, 4, 1);
    }

    private static void trackNoDirection() {
        for (int direction : new int[] {-1, 9, 10, Edges.LEAST, Edges.GREATEST}) {
            trackFails(BUSY, 4, 70, direction, 0);
            trackFails(BUSY, 4, 70, direction, 1);
        }
    }

    private static void trackNoLength() {
        for (int length : new int[] {-1, 12, 13, Edges.LEAST, Edges.GREATEST}) {
            trackFails(BUSY, 4, 36, 0, length);
            trackFails(PIN, 0, 0, 0, length);
        }
    }

    private static void trackTooDeep() {
        // By two steps or eleven one comes back to a cell of the board all the same.
        for (int length : new int[] {-1, 2, 3, 11, 12, Edges.LEAST, Edges.GREATEST}) {
            trackFails(PIN, 0, 70, 8, length);
            trackFails(PIN, 0, 190, 8, length);
        }
    }

    private static int stepsToEnd(int at, int step, int end) {
        return step == 0 ? 99 : step > 0 ? end - at : at;
    }

    private static void trackBoardEnds() {
        for (int direction = 0; direction < 8; direction++) {
            BoardDesk desk = Desks.withPins(1);
            for (int cell = 0; cell < 240; cell++) {
                int most = Math.min(stepsToEnd(cell % 12, RIGHT[direction], 11),
                        stepsToEnd(cell % 120 / 12, DOWN[direction], 9));
                String told = "track(0, " + cell + ", " + direction + ", " + (most + 1) + ")";
                due.same(told, desk.track(0, cell, direction, most + 1), NONE);
                due.yes(told + ", but one less", desk.track(0, cell, direction, most) != NONE);
            }
        }
    }

    private static void trackWrap() {
        trackFails(PIN, 0, 11, 0, 1);
        trackFails(PIN, 0, 11, 1, 1);
        trackFails(PIN, 0, 12, 4, 1);
        trackFails(PIN, 0, 23, 7, 1);
        trackFails(PIN, 0, 24, 5, 1);
        trackFails(PIN, 0, 12, 3, 1);
        trackFails(PIN, 0, 119, 0, 1);
        trackFails(PIN, 0, 120, 4, 1);
        trackFails(PIN, 0, 115, 2, 1);
        trackFails(PIN, 0, 115, 1, 1);
        trackFails(PIN, 0, 125, 6, 1);
        trackFails(PIN, 0, 125, 5, 1);
        trackFails(PIN, 0, 0, 5, 1);
        trackFails(PIN, 0, 239, 1, 1);
        trackFails(BUSY, 4, 70, 0, 2);
        trackFails(BUSY, 4, 70, 0, 11);
    }

    private static void trackBarred() {
        // Cell 100 is the first, one in between, and the last.
        trackFails(BUSY, 4, 100, 0, 3);
        trackFails(BUSY, 4, 98, 0, 3);
        trackFails(BUSY, 4, 97, 0, 3);
        trackFails(BUSY, 4, 100, 0, 0);
        trackFails(BUSY, 4, 100, 8, 1);
        trackFails(BUSY, 4, 220, 8, 1);
        edges.changes("short of it", BUSY, desk -> desk.track(4, 97, 0, 2), 3);
        edges.changes("behind it", BUSY, desk -> desk.track(4, 101, 0, 2), 3);
    }

    private static void trackNear() {
        // With clearance 2 no cell but those of columns 8 and more is free for net 4 in row 2.
        trackFails(BUSY, 4, 24, 0, 11);
        trackFails(BUSY, 4, 31, 0, 4);
        trackFails(BUSY, 4, 35, 4, 4);
        trackFails(BUSY, 4, 31, 0, 0);
        edges.changes("track(4, 32, 0, 1)", BUSY, desk -> desk.track(4, 32, 0, 1), 2);
        edges.changes("track(4, 36, 0, 11)", BUSY, desk -> desk.track(4, 36, 0, 11), 12);
        // Net 4 in row 5 leaves the ends of row 3 free, but not what is between them.
        trackFails(BUSY, 0, 36, 0, 11);
        edges.changes("track(0, 36, 0, 1)", BUSY, desk -> desk.track(0, 36, 0, 1), 2);
        edges.changes("track(0, 47, 4, 1)", BUSY, desk -> desk.track(0, 47, 4, 1), 2);
        // Only the other layer's cell is near to that of pin 2.
        trackFails(BUSY, 4, 60, 8, 1);
        trackFails(BUSY, 4, 182, 8, 1);
        edges.changes("track(4, 60, 8, 0)", BUSY, desk -> desk.track(4, 60, 8, 0), 1);
        trackFails(CROWDED, 0, 62, 0, 0);
    }

    private static void trackPadNotFree() {
        Supplier<BoardDesk> near = () -> {
            BoardDesk desk = Desks.withPins(2);
            desk.place(0, 4, 4, 1);
            desk.place(1, 6, 4, 1);
            desk.rule(2);
            return desk;
        };
        trackFails(near, 0, 52, 0, 0);
        trackFails(near, 0, 48, 0, 4);
        edges.changes("short of it", near, desk -> desk.track(0, 48, 0, 3), 4);
    }

    private static void eraseCopper() {
        edges.changes("erase(3)", BUSY, desk -> Edges.told(desk.erase(3)), 1);
        BoardDesk desk = Desks.busy();
        desk.erase(3);
        due.cells("without cell 3", desk, 0, 0, 1, 2, 4, 5, 120);
        due.no("erase(3) again", desk.erase(3));
    }

    private static void eraseEnds() {
        for (int cell : new int[] {0, 119, 120, 239}) {
            BoardDesk desk = Desks.withPins(1);
            desk.track(0, cell, 0, 0);
            due.yes("erase(" + cell + ")", desk.erase(cell));
            due.same("copper(" + cell + ")", desk.copper(cell), NONE);
        }
    }

    private static void eraseLeaves(Supplier<BoardDesk> maker, int cell) {
        edges.leaves("erase(" + cell + ")", maker, desk -> Edges.told(desk.erase(cell)), 0);
    }

    private static void eraseNone() {
        eraseLeaves(NEW, 0);
        eraseLeaves(BUSY, 6);
        eraseLeaves(BUSY, 121);
        eraseLeaves(CROWDED, 3);
    }

    private static void erasePad() {
        for (int cell : new int[] {0, 120, 5, 180, 119}) {
            eraseLeaves(BUSY, cell);
        }
        eraseLeaves(CROWDED, 0);
    }

    private static void eraseBarred() {
        eraseLeaves(BUSY, 100);
        eraseLeaves(CROWDED, 220);
    }

    private static void eraseNoCell() {
        for (int cell : new int[] {-1, 240, Edges.LEAST, Edges.GREATEST}) {
            eraseLeaves(NEW, cell);
            eraseLeaves(BUSY, cell);
        }
    }

    private static void copperNet() {
        for (int cell : new int[] {0, 120, 1, 5}) {
            edges.leaves("copper(" + cell + ")", BUSY, desk -> desk.copper(cell), 0);
        }
        BoardDesk desk = Desks.withPins(1);
        for (int cell : new int[] {0, 119, 120, 239}) {
            desk.track(0, cell, 0, 0);
            due.same("copper(" + cell + ")", desk.copper(cell), 0);
        }
    }

    private static void copperNone() {
        for (int cell : new int[] {6, 121, 239, 100}) {
            edges.leaves("copper(" + cell + ")", BUSY, desk -> desk.copper(cell), NONE);
        }
        due.same("a barred cell", Desks.crowded().copper(220), NONE);
        due.same("an erased one", Desks.crowded().copper(3), NONE);
        due.same("a lifted pad", Desks.crowded().copper(5), NONE);
    }

    private static void copperNoCell() {
        for (Supplier<BoardDesk> maker : List.of(NEW, BUSY)) {
            for (int cell : new int[] {-1, 240, Edges.LEAST, Edges.GREATEST}) {
                edges.leaves("copper(" + cell + ")", maker, desk -> desk.copper(cell), NONE);
            }
        }
    }

    private static void copperByJoints() {
        BoardDesk desk = Desks.busy();
        due.same("copper(64)", desk.copper(64), 4);
        due.same("copper(119), a pad", desk.copper(119), 2);
        desk.join(4, 3);
        due.same("copper(64) with another joint", desk.copper(64), 2);
        desk.join(1, 2);
        due.same("copper(64) with one more", desk.copper(64), 0);
        due.same("copper(119) with one more", desk.copper(119), 0);
        desk.part(2);
        desk.part(1);
        due.same("copper(119) without its joint", desk.copper(119), 3);
        due.same("copper(64) without it", desk.copper(64), 4);
    }
}
