/** Promises 7 to 12 and 16: place, lift, rule, bar, track, erase, copper. */
public final class BoardTest {
    private static final Due due = new Due();

    public static void main(String[] args) {
        promise7Place();
        promise7PlaceWrong();
        promise7PlaceClearance();
        promise8Lift();
        promise9Rule();
        promise10Bar();
        promise11TrackDirections();
        promise11TrackWrong();
        promise11TrackOverOwn();
        promise11TrackKeepsClear();
        promise12Erase();
        promise16Copper();
        due.finish();
    }

    private static int cellsOf(BoardDesk desk, int net) {
        int count = 0;
        for (int cell = 0; cell < 240; cell++) {
            if (desk.copper(cell) == net) {
                count++;
            }
        }
        return count;
    }

    private static void promise7Place() {
        BoardDesk desk = Desks.withPins(4);
        due.yes("place(0, 11, 9, 3)", desk.place(0, 11, 9, 3));
        due.same("copper(119)", desk.copper(119), 0);
        due.same("copper(239)", desk.copper(239), 0);
        due.yes("place(1, 0, 0, 2)", desk.place(1, 0, 0, 2));
        due.same("copper(0)", desk.copper(0), -1);
        due.same("copper(120)", desk.copper(120), 1);
        due.yes("place(2, 0, 0, 1)", desk.place(2, 0, 0, 1));
        due.same("copper(0) then", desk.copper(0), 2);
        due.same("cells of 0", cellsOf(desk, 0), 2);
        due.same("cells of 1", cellsOf(desk, 1), 1);
        due.no("place(0, 5, 5, 1), placed", desk.place(0, 5, 5, 1));
    }

    private static void promise7PlaceWrong() {
        BoardDesk desk = Desks.withPins(3);
        desk.join(0, 1);
        due.no("place(3, 0, 0, 1)", desk.place(3, 0, 0, 1));
        due.no("place(-1, 0, 0, 1)", desk.place(-1, 0, 0, 1));
        due.no("place(0, 12, 0, 1)", desk.place(0, 12, 0, 1));
        due.no("place(0, -1, 1, 1)", desk.place(0, -1, 1, 1));
        due.no("place(0, 0, 10, 1)", desk.place(0, 0, 10, 1));
        due.no("place(0, 0, -1, 1)", desk.place(0, 0, -1, 1));
        due.no("place(0, 0, 0, 0)", desk.place(0, 0, 0, 0));
        due.no("place(0, 0, 0, 4)", desk.place(0, 0, 0, 4));
        due.no("place(0, 0, 0, -1)", desk.place(0, 0, 0, -1));
        due.no("place(0, 0, 0, least int)", desk.place(0, 0, 0, Integer.MIN_VALUE));
        due.same("nothing is placed", cellsOf(desk, 0), 0);
        desk.place(0, 3, 3, 1);
        due.no("place on a pad of the net", desk.place(1, 3, 3, 1));
        due.no("place on a pad of the net, both layers", desk.place(1, 3, 3, 3));
        desk.track(0, 41, 0, 0);
        due.no("place on copper of the net", desk.place(1, 5, 3, 1));
        desk.track(1, 165, 0, 0);
        due.no("place on copper laid for the pin", desk.place(1, 9, 3, 2));
        desk.bar(1, true);
        due.no("place on a barred cell", desk.place(1, 1, 0, 1));
        due.no("place on a barred cell, both layers", desk.place(1, 1, 0, 3));
        due.yes("place below a barred cell", desk.place(1, 1, 0, 2));
    }

    private static void promise7PlaceClearance() {
        for (int clearance = 1; clearance <= 2; clearance++) {
            for (int x = 0; x < 12; x++) {
                BoardDesk desk = Desks.withPins(3);
                desk.join(0, 1);
                desk.rule(clearance);
                desk.place(0, 5, 5, 1);
                for (int y = 0; y < 10; y++) {
                    boolean near = Math.max(Math.abs(x - 5), Math.abs(y - 5)) <= clearance;
                    placeAround(desk, x, y, near);
                }
            }
        }
    }

    private static void placeAround(BoardDesk desk, int x, int y, boolean near) {
        String at = " at " + x + ", " + y;
        due.same("place" + at, desk.place(2, x, y, 1) ? 1 : 0, near ? 0 : 1);
        desk.lift(2);
        due.same("place in both" + at, desk.place(2, x, y, 3) ? 1 : 0, near ? 0 : 1);
        desk.lift(2);
        due.yes("place in the other layer" + at, desk.place(2, x, y, 2));
        desk.lift(2);
        boolean same = x == 5 && y == 5;
        due.same("place of the net" + at, desk.place(1, x, y, 1) ? 1 : 0, same ? 0 : 1);
        desk.lift(1);
    }

    private static void promise8Lift() {
        BoardDesk desk = Desks.withPins(2);
        due.no("lift(0), not placed", desk.lift(0));
        due.no("lift(2)", desk.lift(2));
        due.no("lift(-1)", desk.lift(-1));
        desk.place(0, 4, 4, 3);
        desk.track(0, 52, 0, 3);
        due.yes("lift(0)", desk.lift(0));
        due.same("copper(52)", desk.copper(52), -1);
        due.same("copper(172)", desk.copper(172), -1);
        due.same("copper(53) stays", desk.copper(53), 0);
        due.no("lift(0) again", desk.lift(0));
        due.yes("place(0, 4, 4, 1)", desk.place(0, 4, 4, 1));
        due.same("copper(172) then", desk.copper(172), -1);
        due.no("lift(1)", desk.lift(1));
    }

    private static void promise9Rule() {
        BoardDesk desk = Desks.withPins(2);
        due.same("rule(2)", desk.rule(2), 1);
        due.same("rule(2) again", desk.rule(2), 2);
        due.same("rule(0)", desk.rule(0), -1);
        due.same("rule(3)", desk.rule(3), -1);
        due.same("rule(-1)", desk.rule(-1), -1);
        desk.place(0, 5, 5, 1);
        due.no("place two cells off", desk.place(1, 7, 5, 1));
        due.same("rule(1)", desk.rule(1), 2);
        due.yes("place two cells off then", desk.place(1, 7, 5, 1));
        due.same("rule(2), though they are near then", desk.rule(2), 1);
        due.same("check(0, 0)", desk.check(0, 0), 2);
    }

    private static void promise10Bar() {
        BoardDesk desk = Desks.withPins(2);
        due.no("bar(240, true)", desk.bar(240, true));
        due.no("bar(-1, true)", desk.bar(-1, true));
        due.no("bar(240, false)", desk.bar(240, false));
        due.yes("bar(239, true)", desk.bar(239, true));
        due.yes("bar(239, true) again", desk.bar(239, true));
        due.no("bar(239, false)", desk.bar(239, false));
        due.no("bar(239, false) again", desk.bar(239, false));
        desk.place(0, 0, 0, 1);
        desk.track(0, 30, 0, 0);
        due.no("bar a pad", desk.bar(0, true));
        due.no("bar copper", desk.bar(30, true));
        due.no("free a pad", desk.bar(0, false));
        due.no("free copper", desk.bar(30, false));
        due.same("the pad stays", desk.copper(0), 0);
        due.same("the copper stays", desk.copper(30), 0);
        due.yes("bar beside a pad", desk.bar(1, true));
        due.yes("bar below a pad", desk.bar(120, true));
        due.same("copper of a barred cell", desk.copper(1), -1);
        due.no("erase a barred cell", desk.erase(1));
        due.same("track over a barred cell", desk.track(0, 12, 7, 1), -1);
        desk.bar(1, false);
        due.same("track over it then", desk.track(0, 12, 7, 1), 2);
    }

    private static void promise11TrackDirections() {
        int[] steps = {1, 13, 12, 11, -1, -13, -12, -11};
        int start = 52;
        for (int direction = 0; direction < 8; direction++) {
            BoardDesk desk = Desks.withPins(1);
            due.same("track over 3 steps", desk.track(0, start, direction, 3), 4);
            for (int step = 0; step <= 3; step++) {
                due.same("its cell", desk.copper(start + step * steps[direction]), 0);
            }
            due.same("all its cells", cellsOf(desk, 0), 4);
        }
        BoardDesk desk = Desks.withPins(1);
        due.same("track to the right end", desk.track(0, 0, 0, 11), 12);
        due.same("track past the right end", desk.track(0, 1, 0, 11), -1);
        due.same("track past the left end", desk.track(0, 10, 4, 11), -1);
        due.same("track to the bottom", desk.track(0, 120, 2, 9), 10);
        due.same("track past the bottom", desk.track(0, 120, 2, 10), -1);
        due.same("track past the bottom of layer 0", desk.track(0, 115, 2, 1), -1);
        due.same("track past the top of layer 1", desk.track(0, 125, 6, 1), -1);
        due.same("track across the corner", desk.track(0, 119, 1, 1), -1);
        due.same("track to the other layer", desk.track(0, 66, 8, 1), 2);
        due.same("its other cell", desk.copper(186), 0);
        due.same("track back", desk.track(0, 188, 8, 1), 2);
        due.same("its other cell in layer 0", desk.copper(68), 0);
        due.same("track of one cell", desk.track(0, 70, 8, 0), 1);
        due.same("no cell below it", desk.copper(190), -1);
    }

    private static void promise11TrackWrong() {
        BoardDesk desk = Desks.withPins(1);
        due.same("no pin", desk.track(1, 0, 0, 1), -1);
        due.same("pin -1", desk.track(-1, 0, 0, 1), -1);
        due.same("cell 240", desk.track(0, 240, 0, 0), -1);
        due.same("cell -1", desk.track(0, -1, 0, 0), -1);
        due.same("direction 9", desk.track(0, 0, 9, 0), -1);
        due.same("direction -1", desk.track(0, 0, -1, 0), -1);
        due.same("length -1", desk.track(0, 0, 0, -1), -1);
        due.same("length 12", desk.track(0, 0, 0, 12), -1);
        due.same("length 2 to the other layer", desk.track(0, 0, 8, 2), -1);
        due.same("length -1 to the other layer", desk.track(0, 0, 8, -1), -1);
        due.same("greatest length", desk.track(0, 0, 0, Integer.MAX_VALUE), -1);
        desk.bar(3, true);
        due.same("over a barred cell", desk.track(0, 0, 0, 5), -1);
        due.same("from a barred cell", desk.track(0, 3, 0, 0), -1);
        due.same("nothing was laid", cellsOf(desk, 0), 0);
    }

    private static void promise11TrackOverOwn() {
        BoardDesk desk = Desks.withPins(3);
        desk.join(1, 2);
        desk.place(1, 2, 0, 1);
        due.same("over a pad", desk.track(1, 0, 0, 4), 4);
        due.no("the pad stays a pad", desk.erase(2));
        due.same("over a pad for another pin of the net", desk.track(2, 2, 0, 0), 0);
        due.no("it stays a pad too", desk.erase(2));
        due.same("over copper and pad alone", desk.track(1, 0, 0, 4), 0);
        // Laid anew for pin 2: it goes with pin 2 when the joint goes.
        due.same("for the other pin", desk.track(2, 3, 0, 2), 1);
        desk.part(0);
        due.same("copper(1)", desk.copper(1), 1);
        due.same("copper(2), the pad", desk.copper(2), 1);
        due.same("copper(3)", desk.copper(3), 2);
        due.same("copper(4)", desk.copper(4), 2);
        due.same("copper(5)", desk.copper(5), 2);
        due.same("over copper that is of another net now", desk.track(1, 0, 0, 1), 0);
        due.same("too near to it", desk.track(1, 2, 0, 0), -1);
    }

    private static void promise11TrackKeepsClear() {
        BoardDesk desk = Desks.withPins(2);
        desk.place(1, 6, 4, 1);
        due.same("two rows above", desk.track(0, 24, 0, 11), 12);
        due.same("a row above", desk.track(0, 36, 0, 11), -1);
        due.same("a row above, short of it", desk.track(0, 36, 0, 4), 5);
        due.same("across to its corner", desk.track(0, 28, 1, 1), -1);
        due.same("in the other layer", desk.track(0, 168, 0, 11), 12);
        due.same("down to it from the other layer", desk.track(0, 174, 8, 1), -1);
        desk.rule(2);
        due.same("two rows above with clearance 2", desk.track(0, 24, 0, 11), -1);
        due.same("three rows above with clearance 2", desk.track(0, 12, 0, 11), 12);
        due.same("its pad is not free any more", desk.track(1, 54, 0, 0), -1);
    }

    private static void promise12Erase() {
        BoardDesk desk = Desks.withPins(1);
        desk.place(0, 0, 0, 1);
        desk.track(0, 0, 0, 2);
        due.yes("erase(1)", desk.erase(1));
        due.same("copper(1)", desk.copper(1), -1);
        due.same("copper(2)", desk.copper(2), 0);
        due.no("erase(1) again", desk.erase(1));
        due.no("erase a pad", desk.erase(0));
        due.same("the pad stays", desk.copper(0), 0);
        due.no("erase(240)", desk.erase(240));
        due.no("erase(-1)", desk.erase(-1));
        desk.bar(50, true);
        due.no("erase a barred cell", desk.erase(50));
        due.same("it is barred still", desk.track(0, 50, 0, 0), -1);
        desk.track(0, 239, 0, 0);
        due.yes("erase(239)", desk.erase(239));
    }

    private static void promise16Copper() {
        BoardDesk desk = Desks.withPins(3);
        due.same("copper(-1)", desk.copper(-1), -1);
        due.same("copper(240)", desk.copper(240), -1);
        desk.join(2, 1);
        desk.place(2, 1, 1, 2);
        desk.track(2, 137, 0, 0);
        due.same("copper of a pad", desk.copper(133), 1);
        due.same("copper", desk.copper(137), 1);
        due.same("copper above", desk.copper(13), -1);
        desk.join(0, 2);
        due.same("copper of a pad with another joint", desk.copper(133), 0);
        due.same("copper with another joint", desk.copper(137), 0);
        desk.part(0);
        desk.part(0);
        due.same("copper of a pad without joints", desk.copper(133), 2);
        due.same("copper without joints", desk.copper(137), 2);
    }
}
