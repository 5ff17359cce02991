/** Promise 17: check. */
public final class CheckTest {
    private static final Due due = new Due();

    public static void main(String[] args) {
        promise17Wrong();
        promise17Open();
        promise17Near();
        promise17NearCell();
        promise17Order();
        due.finish();
    }

    private static void fault(String of, BoardDesk desk, int k, int... wanted) {
        for (int what = 0; what < 4; what++) {
            due.same(of + ": check(" + k + ", " + what + ")", desk.check(k, what), wanted[what]);
        }
    }

    private static void noFault(String of, BoardDesk desk, int k) {
        fault(of, desk, k, -1, -1, -1, -1);
    }

    private static void promise17Wrong() {
        BoardDesk desk = Desks.withPins(2);
        desk.join(0, 1);
        noFault("none placed", desk, 0);
        desk.place(0, 0, 0, 1);
        noFault("one placed", desk, 0);
        desk.place(1, 5, 0, 1);
        due.same("check(0, 4)", desk.check(0, 4), -1);
        due.same("check(0, -1)", desk.check(0, -1), -1);
        due.same("check(-1, 0)", desk.check(-1, 0), -1);
        due.same("check(greatest int, 0)", desk.check(Integer.MAX_VALUE, 0), -1);
        fault("open", desk, 0, 1, 0, 1, -1);
        noFault("open", desk, 1);
    }

    private static void promise17Open() {
        BoardDesk desk = Desks.withPins(4);
        desk.join(0, 1);
        desk.join(0, 2);
        desk.join(0, 3);
        desk.place(1, 0, 0, 1);
        desk.place(2, 1, 1, 1);
        desk.place(3, 1, 1, 2);
        noFault("by corners and layers", desk, 0);
        desk.lift(2);
        fault("pin 2 lifted", desk, 0, 1, 0, 3, -1);
        desk.track(0, 13, 0, 0);
        noFault("copper of pin 0 instead", desk, 0);
        desk.place(0, 9, 9, 1);
        fault("pin 0 is the first then", desk, 0, 1, 0, 1, -1);
        noFault("one fault for a net", desk, 1);
    }

    private static void promise17Near() {
        BoardDesk desk = Desks.withPins(3);
        desk.place(0, 4, 4, 1);
        desk.place(1, 6, 6, 1);
        desk.place(2, 6, 6, 2);
        noFault("clearance 1", desk, 0);
        desk.rule(2);
        fault("clearance 2", desk, 0, 2, 0, 1, 52);
        noFault("clearance 2", desk, 1);
        desk.join(0, 2);
        fault("net 0 has more cells", desk, 0, 1, 0, 2, -1);
        fault("net 0 has more cells", desk, 1, 2, 0, 1, 52);
        desk.join(1, 2);
        noFault("all of one net", desk, 1);
    }

    private static void promise17NearCell() {
        // Copper of two pins in a row is parted: they touch where the one ends.
        BoardDesk desk = Desks.withPins(3);
        desk.join(1, 2);
        desk.track(2, 24, 0, 3);
        desk.track(1, 28, 0, 3);
        desk.part(0);
        fault("beside each other", desk, 0, 2, 1, 2, 28);
        noFault("beside each other", desk, 1);
        desk.rule(2);
        fault("with clearance 2", desk, 0, 2, 1, 2, 28);
        desk.track(0, 144, 0, 3);
        noFault("other layers don't matter", desk, 1);
        // Without the cell that is nearest it is told by the next one.
        desk.erase(28);
        fault("a cell less", desk, 0, 2, 1, 2, 29);
        desk.erase(29);
        noFault("two cells less", desk, 0);
    }

    private static void promise17Order() {
        BoardDesk desk = Desks.withPins(8);
        desk.join(0, 7);
        desk.join(1, 6);
        desk.place(2, 0, 0, 1);
        desk.place(0, 2, 0, 1);
        desk.place(1, 4, 0, 1);
        desk.place(3, 4, 2, 1);
        desk.place(6, 11, 9, 1);
        desk.place(7, 11, 0, 1);
        desk.rule(2);
        fault("order", desk, 0, 1, 0, 7, -1);
        fault("order", desk, 1, 1, 1, 6, -1);
        fault("order", desk, 2, 2, 0, 1, 2);
        fault("order", desk, 3, 2, 0, 2, 2);
        fault("order", desk, 4, 2, 0, 3, 2);
        fault("order", desk, 5, 2, 1, 3, 4);
        noFault("order", desk, 6);
    }
}
