/** Promise 21: undo, and which calls are changes. */
public final class UndoTest {
    private static final Due due = new Due();

    public static void main(String[] args) {
        promise21TakesBackEachKind();
        promise21NoChanges();
        promise21Refused();
        promise21TheLast16();
        promise21GoesOn();
        promise21CopperLaidAnew();
        promise21NetsComeBack();
        due.finish();
    }

    private static void promise21TakesBackEachKind() {
        BoardDesk desk = Desks.withPins(3);
        desk.join(0, 1);
        desk.place(0, 0, 0, 3);
        desk.place(1, 4, 0, 1);
        desk.track(2, 60, 0, 2);
        due.same("erase and undo", desk.erase(61) ? desk.undo() : -9, 7);
        due.same("copper(61)", desk.copper(61), 2);
        due.same("rip and undo", desk.rip(2) == 3 ? desk.undo() : -9, 7);
        due.same("copper(60)", desk.copper(60), 2);
        due.same("lift and undo", desk.lift(0) ? desk.undo() : -9, 7);
        due.same("copper(120)", desk.copper(120), 0);
        due.no("it is placed again", desk.place(0, 9, 9, 1));
        due.same("route and undo", desk.route(0) == 40 ? desk.undo() : -9, 7);
        due.same("copper(1)", desk.copper(1), -1);
        due.same("auto and undo", desk.auto() == 1 ? desk.undo() : -9, 7);
        due.same("copper(1) then", desk.copper(1), -1);
        due.same("rule and undo", desk.rule(2) == 1 ? desk.undo() : -9, 7);
        due.same("rule(1)", desk.rule(1), 1);
        due.same("bar and undo", desk.bar(100, true) ? desk.undo() : -9, 7);
        due.same("track over it", desk.track(0, 100, 0, 0), 1);
        due.same("undo of track", desk.undo(), 7);
        due.same("copper(100)", desk.copper(100), -1);
        due.same("part and undo", desk.part(0) == 0 ? desk.undo() : -9, 7);
        due.same("net(1)", desk.net(1), 0);
        due.same("undo of track 60", desk.undo(), 6);
        due.same("copper(60) then", desk.copper(60), -1);
        due.same("undo of place 1", desk.undo(), 5);
        due.same("copper(4)", desk.copper(4), -1);
        due.yes("it can be placed", desk.place(1, 4, 0, 1));
        due.same("undo of place 1 again", desk.undo(), 5);
        due.same("undo of place 0", desk.undo(), 4);
        due.same("undo of join", desk.undo(), 3);
        due.same("net(1) then", desk.net(1), 1);
        due.same("part(0)", desk.part(0), -1);
        due.same("undo of pin 2", desk.undo(), 2);
        due.same("net(2)", desk.net(2), -1);
        due.same("undo of pin 1", desk.undo(), 1);
        due.same("undo of pin 0", desk.undo(), 0);
        due.same("undo of nothing", desk.undo(), -1);
        due.same("pin", desk.pin(0), 0);
    }

    private static void promise21NoChanges() {
        BoardDesk desk = Desks.withPins(2);
        desk.place(0, 0, 0, 1);
        desk.track(0, 0, 0, 2);
        desk.bar(100, true);
        // 5 changes stand; none of these calls is one.
        desk.rule(1);
        desk.bar(100, true);
        desk.bar(101, false);
        desk.track(0, 0, 0, 2);
        desk.track(0, 0, 4, 0);
        desk.erase(50);
        desk.lift(1);
        desk.route(0);
        desk.rip(1);
        desk.auto();
        desk.read(1);
        desk.replay(0);
        desk.plot(0, 0);
        desk.check(0, 0);
        desk.fault(0, 0);
        due.same("undo()", desk.undo(), 4);
        due.same("the bar is gone", desk.track(1, 100, 0, 0), 1);
    }

    private static void promise21Refused() {
        BoardDesk desk = Desks.withPins(2);
        desk.place(0, 0, 0, 1);
        desk.pin(9);
        desk.join(0, 0);
        desk.part(0);
        desk.place(1, 1, 1, 1);
        desk.place(0, 5, 5, 1);
        desk.lift(7);
        desk.rule(9);
        desk.bar(0, true);
        desk.track(1, 5, 4, 5);
        desk.erase(0);
        desk.route(7);
        desk.rip(7);
        due.same("undo()", desk.undo(), 2);
        due.same("copper(0)", desk.copper(0), -1);
    }

    private static void promise21TheLast16() {
        BoardDesk desk = Desks.withPins(1);
        for (int cell = 0; cell < 40; cell++) {
            desk.bar(cell, true);
        }
        for (int left = 15; left >= 0; left--) {
            due.same("undo()", desk.undo(), left);
        }
        due.same("undo() of the 17th", desk.undo(), -1);
        due.same("cell 24 is free again", desk.track(0, 24, 0, 0), 1);
        due.same("cell 23 is barred still", desk.track(0, 23, 0, 0), -1);
        due.same("undo() of the track", desk.undo(), 0);
        // A full history loses nothing by calls that change nothing.
        for (int cell = 100; cell < 120; cell++) {
            desk.bar(cell, true);
        }
        for (int times = 0; times < 20; times++) {
            desk.bar(119, true);
            desk.rip(0);
            desk.undo();
            desk.bar(119, true);
        }
        due.same("undo() then", desk.undo(), 15);
        for (int left = 14; left >= 0; left--) {
            due.same("undo() on", desk.undo(), left);
        }
        due.same("undo() at the end", desk.undo(), -1);
        due.same("cell 103 is barred still", desk.track(0, 103, 0, 0), -1);
        due.same("cell 104 is free again", desk.track(0, 104, 0, 0), 1);
    }

    private static void promise21GoesOn() {
        BoardDesk desk = Desks.withPins(2);
        desk.bar(1, true);
        desk.bar(2, true);
        due.same("undo()", desk.undo(), 3);
        desk.bar(3, true);
        due.same("undo() of the new change", desk.undo(), 3);
        due.same("undo() of the one before", desk.undo(), 2);
        due.same("cells are free", desk.track(0, 0, 0, 3), 4);
        due.same("undo() of the track", desk.undo(), 2);
    }

    private static void promise21CopperLaidAnew() {
        BoardDesk desk = Desks.withPins(2);
        desk.join(0, 1);
        desk.track(0, 0, 0, 2);
        due.same("laid anew for pin 1", desk.track(1, 0, 0, 1), 0);
        due.same("it is a change", desk.undo(), 4);
        desk.part(0);
        due.same("copper(0) is of pin 0 again", desk.copper(0), 0);
        due.same("copper(2)", desk.copper(2), 0);
    }

    private static void promise21NetsComeBack() {
        BoardDesk desk = Desks.withPins(3);
        desk.join(1, 2);
        desk.join(0, 1);
        desk.place(2, 3, 3, 1);
        due.same("copper(39)", desk.copper(39), 0);
        desk.part(0);
        due.same("copper(39) without joint 0", desk.copper(39), 2);
        due.same("undo of part", desk.undo(), 6);
        due.same("copper(39) again", desk.copper(39), 0);
        due.same("part(1), the one that stood second", desk.part(1), 1);
        due.same("copper(39) without joint 1", desk.copper(39), 1);
    }
}
