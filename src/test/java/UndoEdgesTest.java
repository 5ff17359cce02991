import java.util.function.Supplier;
import java.util.function.ToIntFunction;

/** Promise 21, sentence by sentence: undo, and which calls are changes. */
public final class UndoEdgesTest {
    private static final int NONE = -1;

    private static final Supplier<BoardDesk> NEW = BoardDesk::new;
    private static final Supplier<BoardDesk> BUSY = Desks::busy;
    private static final Supplier<BoardDesk> CROWDED = Desks::crowded;

    private static final Edges edges = new Edges();
    private static final Due due = edges.due;

    public static void main(String[] args) {
        answers();
        changes();
        noChanges();
        edges.finish();
    }

    private static void answers() {
        edges.holds("21: NONE when there is none: a new object", UndoEdgesTest::noneNew);
        edges.holds("21: NONE when there is none: all taken back", UndoEdgesTest::noneLeft);
        edges.holds("21: how many can be taken back still", UndoEdgesTest::howMany);
        edges.holds("Terms: the last 16 can be taken back: 16 changes", () -> afterChanges(16));
        edges.holds("Terms: the last 16 can be taken back: 17 changes", () -> afterChanges(17));
        edges.holds("Terms: the last 16 can be taken back: 33 to 52", UndoEdgesTest::roundAgain);
        edges.holds("21: the last change that was not taken back", UndoEdgesTest::lastNotTakenBack);
        edges.holds("21: a new change after 16 were taken back", UndoEdgesTest::changeAfterAll);
        edges.holds("21: undo is no change itself", UndoEdgesTest::undoIsNoChange);
        edges.holds("512 calls: the last one, too", UndoEdgesTest::lastCall);
    }

    private static void changes() {
        edges.holds("Terms: a change: pins", UndoEdgesTest::pinsChange);
        edges.holds("Terms: a change: joints", UndoEdgesTest::jointsChange);
        edges.holds("Terms: a change: pads", UndoEdgesTest::padsChange);
        edges.holds("Terms: a change: copper", UndoEdgesTest::copperChanges);
        edges.holds("Terms: a change: bars", UndoEdgesTest::barsChange);
        edges.holds("Terms: a change: clearance", UndoEdgesTest::clearanceChanges);
        edges.holds("Terms: a change: copper laid for another pin", UndoEdgesTest::anewChanges);
    }

    private static void noChanges() {
        edges.holds("Terms: no change: nothing is otherwise than before", UndoEdgesTest::nothing);
        edges.holds("Terms: no change: calls that look", UndoEdgesTest::looking);
        edges.holds("Terms: no change: refused calls", UndoEdgesTest::refused);
        edges.holds("Terms: no change: between changes", UndoEdgesTest::between);
    }

    private static void noneNew() {
        edges.leaves("undo()", NEW, BoardDesk::undo, NONE);
        BoardDesk desk = new BoardDesk();
        due.same("undo()", desk.undo(), NONE);
        due.same("undo() again", desk.undo(), NONE);
        due.same("pin(0)", desk.pin(0), 0);
        due.same("undo() then", desk.undo(), 0);
    }

    private static void noneLeft() {
        Supplier<BoardDesk> empty = () -> {
            BoardDesk desk = Desks.crowded();
            for (int times = 0; times < 16; times++) {
                desk.undo();
            }
            return desk;
        };
        edges.leaves("undo()", empty, BoardDesk::undo, NONE);
        BoardDesk desk = empty.get();
        // 19 changes were made: the first three, pins 0 to 2, stay.
        due.same("net(2)", desk.net(2), 2);
        due.same("net(3)", desk.net(3), NONE);
        due.same("pin(0)", desk.pin(0), 3);
        due.same("undo() of it", desk.undo(), 0);
        due.same("undo() of none", desk.undo(), NONE);
    }

    private static void howMany() {
        for (int count = 1; count <= 20; count++) {
            BoardDesk desk = new BoardDesk();
            for (int cell = 0; cell < count; cell++) {
                desk.bar(cell, true);
            }
            for (int left = Math.min(count, 16) - 1; left >= 0; left--) {
                due.same("undo() after " + count, desk.undo(), left);
            }
            due.same("undo() of none after " + count, desk.undo(), NONE);
        }
    }

    /** So many bars, cell by cell, then 16 taken back: those of the last 16 cells are gone. */
    private static void afterChanges(int count) {
        BoardDesk desk = Desks.withPins(1);
        for (int cell = 0; cell < count; cell++) {
            desk.bar(cell, true);
        }
        for (int left = 15; left >= 0; left--) {
            due.same("undo()", desk.undo(), left);
        }
        due.same("undo() of one more", desk.undo(), NONE);
        for (int cell = 0; cell < count; cell++) {
            boolean stays = cell < count - 16;
            due.same("cell " + cell, desk.track(0, cell, 0, 0), stays ? NONE : 1);
        }
    }

    private static void roundAgain() {
        for (int count = 33; count <= 52; count++) {
            afterChanges(count);
        }
    }

    private static void lastNotTakenBack() {
        BoardDesk desk = Desks.withPins(1);
        desk.bar(1, true);
        desk.bar(2, true);
        due.same("undo() of 2", desk.undo(), 2);
        desk.bar(3, true);
        desk.bar(4, true);
        due.same("undo() of 4", desk.undo(), 3);
        due.same("undo() of 3", desk.undo(), 2);
        due.same("cell 2 is free", desk.track(0, 2, 0, 0), 1);
        due.same("undo() of the track", desk.undo(), 2);
        due.same("cell 1 is not", desk.track(0, 1, 0, 0), NONE);
        due.same("undo() of 1", desk.undo(), 1);
        due.same("cell 1 is free", desk.track(0, 1, 0, 3), 4);
    }

    private static void changeAfterAll() {
        // Nine made, seven taken back, over and over: so the places of old changes are used again.
        BoardDesk desk = Desks.withPins(1);
        int[] standing = new int[240];
        int count = 0;
        int next = 0;
        for (int times = 0; times < 12; times++) {
            for (int made = 0; made < 9; made++) {
                due.yes("bar(" + next + ", true)", desk.bar(next, true));
                standing[count] = next;
                count++;
                next++;
            }
            for (int back = 0; back < 7; back++) {
                desk.undo();
                count--;
            }
        }
        boolean[] barred = new boolean[240];
        for (int i = 0; i < count; i++) {
            barred[standing[i]] = true;
        }
        for (int cell = 0; cell < next; cell++) {
            due.same("cell " + cell, desk.track(0, cell, 0, 0), barred[cell] ? NONE : 1);
        }
        desk = Desks.crowded();
        for (int times = 0; times < 16; times++) {
            desk.undo();
        }
        for (int made = 1; made <= 20; made++) {
            desk.rule(made % 2 + 1);
        }
        // The clearance was 1 before, so the first of these was a change, too.
        due.same("undo()", desk.undo(), 15);
        due.same("rule(2)", desk.rule(2), 2);
    }

    private static void undoIsNoChange() {
        BoardDesk desk = Desks.withPins(3);
        due.same("undo()", desk.undo(), 2);
        due.same("undo() takes back one more", desk.undo(), 1);
        due.same("net(1)", desk.net(1), NONE);
        due.same("undo() and one more", desk.undo(), 0);
        due.same("undo() of none", desk.undo(), NONE);
        due.same("pin(0)", desk.pin(0), 0);
    }

    private static void lastCall() {
        BoardDesk desk = Desks.withPins(1);
        for (int call = 2; call <= 511; call++) {
            due.same("rule, call " + call, desk.rule(call % 2 == 0 ? 2 : 1), call % 2 == 0 ? 1 : 2);
        }
        due.same("undo(), call 512", desk.undo(), 15);
    }

    private static void change(String told, ToIntFunction<BoardDesk> call, int want) {
        edges.changes(told, BUSY, call, want);
    }

    private static void pinsChange() {
        change("pin(0)", desk -> desk.pin(0), 5);
        edges.changes("pin(3), the first one", NEW, desk -> desk.pin(3), 0);
    }

    private static void jointsChange() {
        change("join(4, 1)", desk -> desk.join(4, 1), 2);
        change("join(0, 1), as before", desk -> desk.join(0, 1), 2);
        change("part(0)", desk -> desk.part(0), 1);
        change("part(1)", desk -> desk.part(1), 1);
    }

    private static void padsChange() {
        change("place(4, 9, 5, 1)", desk -> Edges.told(desk.place(4, 9, 5, 1)), 1);
        change("place(4, 9, 5, 3)", desk -> Edges.told(desk.place(4, 9, 5, 3)), 1);
        change("lift(0)", desk -> Edges.told(desk.lift(0)), 1);
        change("lift(2)", desk -> Edges.told(desk.lift(2)), 1);
    }

    private static void copperChanges() {
        change("track(4, 68, 0, 1)", desk -> desk.track(4, 68, 0, 1), 2);
        change("erase(1)", desk -> Edges.told(desk.erase(1)), 1);
        change("rip(1)", desk -> desk.rip(1), 4);
        // Eleven steps, four of them across, and one to the other layer.
        change("route(2)", desk -> desk.route(2), 7 * 10 + 4 * 14 + 30);
        change("auto()", BoardDesk::auto, 2);
    }

    private static void barsChange() {
        change("bar(101, true)", desk -> Edges.told(desk.bar(101, true)), 1);
        change("bar(100, false)", desk -> Edges.told(desk.bar(100, false)), 0);
    }

    private static void clearanceChanges() {
        change("rule(1)", desk -> desk.rule(1), 2);
        edges.changes("rule(2)", NEW, desk -> desk.rule(2), 1);
    }

    private static void anewChanges() {
        change("track(0, 1, 0, 3)", desk -> desk.track(0, 1, 0, 3), 0);
        change("track(0, 1, 0, 0)", desk -> desk.track(0, 1, 0, 0), 0);
        edges.leaves("track(1, 1, 0, 3)", BUSY, desk -> desk.track(1, 1, 0, 3), 0);
    }

    private static void leavesBoth(String told, ToIntFunction<BoardDesk> call, int busy, int crowded) {
        edges.leaves(told, BUSY, call, busy);
        edges.leaves(told + ", crowded", CROWDED, call, crowded);
    }

    private static void nothing() {
        leavesBoth("rule(2)", desk -> desk.rule(2), 2, 2);
        leavesBoth("bar(100, true)", desk -> Edges.told(desk.bar(100, true)), 1, 1);
        leavesBoth("bar(90, false)", desk -> Edges.told(desk.bar(90, false)), 0, 0);
        leavesBoth("track(4, 64, 0, 3)", desk -> desk.track(4, 64, 0, 3), 0, 0);
        leavesBoth("track(0, 0, 8, 1)", desk -> desk.track(0, 0, 8, 1), 0, 0);
        leavesBoth("erase(90)", desk -> Edges.told(desk.erase(90)), 0, 0);
        leavesBoth("lift(4)", desk -> Edges.told(desk.lift(4)), 0, 0);
        leavesBoth("route(0)", desk -> desk.route(0), 0, 0);
        edges.leaves("rip(2)", BUSY, desk -> desk.rip(2), 0);
    }

    private static void looking() {
        leavesBoth("net(3)", desk -> desk.net(3), 2, 2);
        leavesBoth("fault(0, 0)", desk -> desk.fault(0, 0), 2, NONE);
        leavesBoth("copper(4)", desk -> desk.copper(4), 0, 0);
        leavesBoth("check(0, 0)", desk -> desk.check(0, 0), 1, 1);
        leavesBoth("plot(0, 2)", desk -> desk.plot(0, 2), 6, 3);
    }

    private static void refused() {
        leavesBoth("pin(4)", desk -> desk.pin(4), NONE, NONE);
        leavesBoth("join(1, 1)", desk -> desk.join(1, 1), NONE, NONE);
        leavesBoth("part(3)", desk -> desk.part(3), NONE, NONE);
        leavesBoth("place(4, 0, 2, 1)", desk -> Edges.told(desk.place(4, 0, 2, 1)), 0, 0);
        leavesBoth("lift(5)", desk -> Edges.told(desk.lift(5)), 0, 0);
        leavesBoth("rule(3)", desk -> desk.rule(3), NONE, NONE);
        leavesBoth("bar(0, true)", desk -> Edges.told(desk.bar(0, true)), 0, 0);
        leavesBoth("track(4, 67, 0, 5)", desk -> desk.track(4, 67, 0, 5), NONE, NONE);
        leavesBoth("erase(240)", desk -> Edges.told(desk.erase(240)), 0, 0);
        leavesBoth("route(5)", desk -> desk.route(5), NONE, NONE);
        leavesBoth("rip(5)", desk -> desk.rip(5), NONE, NONE);
        leavesBoth("replay(2)", desk -> desk.replay(2), NONE, NONE);
        leavesBoth("read(256)", desk -> desk.read(256), NONE, NONE);
    }

    private static void between() {
        // Calls that change nothing come between 20 changes: the last 16 are kept all the same.
        BoardDesk desk = Desks.withPins(1);
        for (int cell = 0; cell < 20; cell++) {
            desk.bar(cell, true);
            desk.bar(cell, true);
            desk.rule(1);
            desk.pin(9);
            desk.rip(0);
            desk.auto();
            desk.route(0);
            desk.track(0, cell, 0, 0);
        }
        for (int left = 15; left >= 0; left--) {
            due.same("undo()", desk.undo(), left);
            desk.bar(0, true);
            desk.track(0, 0, 0, 11);
        }
        due.same("undo() of none", desk.undo(), NONE);
        due.same("cell 3 is barred", desk.track(0, 3, 0, 0), NONE);
        due.same("cells 4 to 11 are free", desk.track(0, 4, 0, 7), 8);
    }
}
