/** Promises 13 to 15: route, rip, auto. */
public final class RouteTest {
    private static final Due due = new Due();

    public static void main(String[] args) {
        promise13RouteWrong();
        promise13RouteCosts();
        promise13LeastWay();
        promise13FirstPad();
        promise13EndsNeedNotBeFree();
        promise13NotFreeInBetween();
        promise13NoWay();
        promise13MissingPin();
        promise13LaidForTheMissingPin();
        promise13PadsStayPads();
        promise14Rip();
        promise15Auto();
        promise15AutoOrder();
        promise15AutoStopsAtTheMissingPin();
        due.finish();
    }

    /** Two joined pins, placed. */
    private static BoardDesk pair(int x0, int y0, int layers0, int x1, int y1, int layers1) {
        BoardDesk desk = Desks.withPins(2);
        desk.join(0, 1);
        due.yes("place(0, ..)", desk.place(0, x0, y0, layers0));
        due.yes("place(1, ..)", desk.place(1, x1, y1, layers1));
        return desk;
    }

    private static void promise13RouteWrong() {
        BoardDesk desk = Desks.withPins(2);
        desk.join(0, 1);
        due.same("route(2)", desk.route(2), -1);
        due.same("route(-1)", desk.route(-1), -1);
        due.same("route(0), none placed", desk.route(0), 0);
        desk.place(1, 0, 0, 1);
        due.same("route(0), one placed", desk.route(0), 0);
        desk.place(0, 1, 0, 1);
        due.same("route(0), pads beside each other", desk.route(0), 0);
        desk.lift(0);
        desk.place(0, 0, 0, 2);
        due.same("route(0), pads over each other", desk.route(0), 0);
        desk.lift(0);
        desk.place(0, 1, 1, 1);
        due.same("route(0), pads across", desk.route(0), 0);
    }

    private static void promise13RouteCosts() {
        due.same("in a row", pair(0, 0, 1, 4, 0, 1).route(0), 40);
        due.same("in a column", pair(0, 0, 1, 0, 9, 1).route(0), 90);
        due.same("across", pair(0, 0, 1, 9, 9, 1).route(1), 126);
        due.same("across and on", pair(0, 0, 2, 11, 9, 2).route(1), 146);
        due.same("to the other layer", pair(0, 0, 1, 1, 0, 2).route(1), 40);
        due.same("from both layers", pair(0, 0, 3, 4, 0, 2).route(1), 40);
        BoardDesk desk = pair(0, 0, 1, 4, 0, 1);
        due.same("route(1)", desk.route(1), 40);
        due.cells("in a row", desk, 0, 0, 1, 2, 3, 4);
        due.same("route(1) again", desk.route(1), 0);
        due.yes("a cell goes", desk.erase(2));
        // The way starts at the pad, over copper that is there already.
        due.same("route(0) then", desk.route(0), 30);
        BoardDesk behind = pair(0, 0, 1, 2, 0, 1);
        behind.bar(1, true);
        due.same("round a barred cell", behind.route(0), 28);
        behind = pair(0, 5, 1, 2, 5, 1);
        for (int y = 0; y < 10; y++) {
            behind.bar(12 * y + 1, true);
        }
        due.same("under a wall", behind.route(0), 80);
        due.cells("under a wall", behind, 0, 60, 180, 181, 182, 62);
    }

    private static void promise13LeastWay() {
        // From the missing pin, the upper cells have the lesser numbers.
        BoardDesk desk = pair(0, 5, 1, 3, 6, 1);
        due.same("route(0)", desk.route(0), 34);
        due.cells("up at once", desk, 0, 60, 61, 62, 75);
        desk = pair(3, 6, 1, 0, 5, 1);
        due.same("route(0) the other way", desk.route(0), 34);
        due.cells("down late", desk, 0, 60, 61, 62, 75);
        desk = pair(0, 6, 1, 3, 5, 1);
        due.same("route(0) from above", desk.route(0), 34);
        due.cells("down late, to the left", desk, 0, 72, 61, 62, 63);
        // The least second cell decides, though a later one is greater then.
        desk = pair(5, 5, 1, 5, 7, 1);
        desk.bar(77, true);
        due.same("route(0) round a cell", desk.route(0), 28);
        due.cells("on the left", desk, 0, 65, 76, 89);
        // One step to the other layer, wherever: early is greater in layer 0, least in layer 1.
        desk = pair(0, 0, 2, 3, 0, 1);
        due.same("route(0) from layer 0", desk.route(0), 60);
        due.cells("below at the end", desk, 0, 120, 0, 1, 2, 3);
        desk = pair(0, 0, 1, 3, 0, 2);
        due.same("route(0) from layer 1", desk.route(0), 60);
        due.cells("above at once", desk, 0, 0, 1, 2, 3, 123);
    }

    private static void promise13FirstPad() {
        BoardDesk desk = pair(0, 0, 3, 4, 0, 3);
        due.same("route(0)", desk.route(0), 40);
        due.cells("in layer 0", desk, 0, 0, 120, 1, 2, 3, 4, 124);
        desk = pair(0, 0, 3, 4, 0, 3);
        desk.bar(2, true);
        due.same("route(0) with a barred cell", desk.route(0), 40);
        due.cells("in layer 1", desk, 0, 0, 120, 121, 122, 123, 4, 124);
        desk = pair(0, 0, 3, 4, 0, 3);
        desk.bar(2, true);
        desk.bar(122, true);
        due.same("route(0) with both cells barred", desk.route(0), 48);
        due.cells("round it in layer 0", desk, 0, 0, 120, 1, 14, 3, 4, 124);
    }

    /** Two joined pins and a third too near to both for clearance 2. */
    private static BoardDesk withNearPin() {
        BoardDesk desk = Desks.withPins(3);
        desk.join(0, 1);
        desk.place(0, 0, 0, 1);
        desk.place(1, 4, 0, 1);
        desk.place(2, 2, 2, 1);
        desk.rule(2);
        return desk;
    }

    private static void promise13EndsNeedNotBeFree() {
        BoardDesk desk = withNearPin();
        due.same("check: they are near", desk.check(1, 0), 2);
        due.same("route(0) by the other layer", desk.route(0), 100);
        due.cells("by the other layer", desk, 0, 0, 120, 121, 122, 123, 124, 4);
    }

    private static void promise13NotFreeInBetween() {
        // Pin 1 stands between the others of its net and is not free itself: the way goes round it.
        BoardDesk desk = Desks.withPins(4);
        desk.join(0, 1);
        desk.join(0, 2);
        desk.place(0, 0, 0, 1);
        desk.place(1, 5, 0, 1);
        desk.place(2, 10, 0, 1);
        desk.place(3, 5, 2, 1);
        desk.rule(2);
        due.same("route to pin 1", desk.route(0), 110);
        due.same("route to pin 2 from its piece", desk.route(0), 80);
        due.same("copper(127)", desk.copper(127), 0);
        due.same("copper(6) is not free", desk.copper(6), -1);
        due.same("copper(7) is not free", desk.copper(7), -1);
        due.same("route(0), whole", desk.route(0), 0);
    }

    private static void promise13NoWay() {
        BoardDesk desk = pair(0, 0, 1, 5, 5, 1);
        for (int cell : new int[] {1, 12, 13, 120}) {
            desk.bar(cell, true);
        }
        due.same("route(0), shut in", desk.route(0), -2);
        due.cells("shut in", desk, 0, 0, 65);
        due.same("undo() takes back the last bar", desk.undo(), 8);
        due.same("route(0) by the other layer", desk.route(0), 130);
        due.same("route(1) then", desk.route(1), 0);
    }

    private static void promise13MissingPin() {
        // Pin 0 is not placed, so pin 1 is the first; pin 2 is of its piece, so pin 3 is missing.
        BoardDesk desk = Desks.withPins(5);
        for (int p = 1; p < 5; p++) {
            desk.join(0, p);
        }
        desk.place(1, 0, 0, 1);
        desk.place(2, 1, 0, 1);
        desk.place(4, 0, 4, 1);
        desk.place(3, 9, 0, 1);
        due.same("route to pin 3", desk.route(4), 80);
        due.same("copper(5)", desk.copper(5), 0);
        due.same("copper(24)", desk.copper(24), -1);
        due.same("route to pin 4", desk.route(0), 40);
        due.same("copper(24) then", desk.copper(24), 0);
        // Copper of unplaced pins makes a piece too.
        BoardDesk other = Desks.withPins(3);
        other.join(0, 1);
        other.join(1, 2);
        other.place(0, 0, 0, 1);
        other.place(1, 5, 0, 1);
        other.track(2, 0, 0, 4);
        due.same("route(0) along laid copper", other.route(0), 0);
        // Steps over copper cost as much as others.
        other.erase(1);
        due.same("route(0) through the gap", other.route(0), 50);
    }

    private static void promise13LaidForTheMissingPin() {
        BoardDesk desk = Desks.withPins(3);
        desk.join(0, 1);
        desk.join(0, 2);
        desk.place(0, 0, 0, 1);
        desk.place(1, 6, 0, 1);
        desk.track(0, 0, 0, 1);
        desk.track(2, 3, 0, 0);
        due.same("route(0)", desk.route(0), 50);
        desk.part(0);
        // The last cell of the way and the copper on it were laid anew for pin 1.
        due.same("copper(0), a pad", desk.copper(0), 0);
        for (int cell = 1; cell <= 6; cell++) {
            due.same("copper(" + cell + ")", desk.copper(cell), 1);
        }
    }

    private static void promise13PadsStayPads() {
        // The way to pin 1 leads over the pad of pin 2.
        BoardDesk desk = Desks.withPins(3);
        desk.join(0, 1);
        desk.join(0, 2);
        desk.place(0, 0, 0, 1);
        desk.place(1, 8, 0, 1);
        desk.place(2, 4, 0, 1);
        due.same("route over a pad", desk.route(0), 80);
        due.same("route(2), whole", desk.route(2), 0);
        for (int pad : new int[] {0, 4, 8}) {
            due.no("erase pad " + pad, desk.erase(pad));
        }
        desk.part(1);
        due.same("the pad belongs to its pin", desk.copper(4), 2);
        due.same("rip(0)", desk.rip(0), 6);
    }

    private static void promise14Rip() {
        BoardDesk desk = Desks.withPins(4);
        desk.join(0, 1);
        desk.join(0, 3);
        desk.place(0, 0, 0, 1);
        desk.track(0, 0, 0, 3);
        desk.track(1, 132, 0, 2);
        desk.track(2, 60, 0, 4);
        due.same("rip(4)", desk.rip(4), -1);
        due.same("rip(-1)", desk.rip(-1), -1);
        due.same("rip(3)", desk.rip(3), 6);
        due.cells("ripped", desk, 0, 0);
        due.cells("not ripped", desk, 2, 60, 61, 62, 63, 64);
        due.same("rip(3) again", desk.rip(3), 0);
        due.same("rip(2)", desk.rip(2), 5);
    }

    private static void promise15Auto() {
        BoardDesk desk = Desks.withPins(7);
        due.same("auto(), none placed", desk.auto(), 0);
        desk.join(0, 1);
        desk.join(1, 2);
        desk.join(3, 4);
        desk.place(0, 0, 0, 1);
        due.same("auto(), one placed", desk.auto(), 0);
        desk.place(1, 6, 0, 1);
        desk.place(2, 6, 6, 2);
        desk.place(3, 11, 0, 1);
        desk.place(4, 11, 9, 3);
        desk.place(5, 0, 9, 1);
        due.same("auto()", desk.auto(), 2);
        due.same("check(0, 0)", desk.check(0, 0), -1);
        due.same("copper(3)", desk.copper(3), 0);
        due.same("copper(47)", desk.copper(47), 3);
        due.same("auto() again", desk.auto(), 2);
        // All the ways of one call are one change.
        due.same("undo()", desk.undo(), 15);
        due.same("copper(3) then", desk.copper(3), -1);
        due.same("copper(47) then", desk.copper(47), -1);
    }

    private static void promise15AutoOrder() {
        // Where two ways cross, the one with the lesser sum stays in layer 0.
        BoardDesk desk = crossing(5, 0, 5, 9);
        due.same("auto(), the lesser sum first", desk.auto(), 2);
        due.same("net 2 in layer 0", desk.copper(53), 2);
        due.same("net 0 in layer 1", desk.copper(173), 0);
        desk = crossing(5, 0, 5, 8);
        desk.lift(1);
        desk.place(1, 8, 4, 1);
        due.same("auto(), the same sum", desk.auto(), 2);
        due.same("net 0 in layer 0", desk.copper(53), 0);
        due.same("net 2 in layer 1", desk.copper(173), 2);
    }

    /** Net 0 leads along row 4 over 11 columns, net 2 down over the places told. */
    private static BoardDesk crossing(int x2, int y2, int x3, int y3) {
        BoardDesk desk = Desks.withPins(4);
        desk.join(0, 1);
        desk.join(2, 3);
        due.yes("place(0, 0, 4, 1)", desk.place(0, 0, 4, 1));
        due.yes("place(1, 11, 4, 1)", desk.place(1, 11, 4, 1));
        due.yes("place(2, ..)", desk.place(2, x2, y2, 1));
        due.yes("place(3, ..)", desk.place(3, x3, y3, 1));
        return desk;
    }

    private static void promise15AutoStopsAtTheMissingPin() {
        // Pin 1 is shut in, so pin 2 behind it is not reached either.
        BoardDesk desk = Desks.withPins(5);
        desk.join(0, 1);
        desk.join(0, 2);
        desk.join(3, 4);
        desk.place(0, 3, 0, 1);
        desk.place(1, 0, 0, 1);
        desk.place(2, 6, 0, 1);
        desk.place(3, 0, 9, 1);
        desk.place(4, 4, 9, 1);
        for (int cell : new int[] {1, 12, 13, 120}) {
            desk.bar(cell, true);
        }
        due.same("auto()", desk.auto(), 1);
        due.same("copper(4)", desk.copper(4), -1);
        due.same("copper(110)", desk.copper(110), 3);
        due.same("check(0, 2)", desk.check(0, 2), 1);
        desk.bar(1, false);
        due.same("auto() then", desk.auto(), 2);
        due.same("copper(4) then", desk.copper(4), 0);
    }
}
