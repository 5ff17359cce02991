import java.util.List;
import java.util.function.Supplier;

/** Promises 1 to 6, sentence by sentence: a new object, pin, join, part, net, fault. */
public final class PinEdgesTest {
    private static final int NONE = -1;
    private static final int FULL = -2;
    private static final int CLASH = 1;
    private static final int DEAF = 2;

    private static final Supplier<BoardDesk> NEW = BoardDesk::new;
    private static final Supplier<BoardDesk> BUSY = Desks::busy;
    private static final Supplier<BoardDesk> CROWDED = Desks::crowded;
    private static final Supplier<BoardDesk> ALL_PINS = () -> Desks.withPins(16);
    private static final Supplier<BoardDesk> ALL_JOINTS = PinEdgesTest::allJoints;
    /** New, with room for one more change, and with more changes than are kept. */
    private static final List<Supplier<BoardDesk>> DESKS = List.of(NEW, BUSY, CROWDED);

    private static final Edges edges = new Edges();
    private static final Due due = edges.due;

    public static void main(String[] args) {
        newObject();
        pin();
        join();
        part();
        net();
        fault();
        edges.finish();
    }

    private static void newObject() {
        edges.holds("1: No pins", PinEdgesTest::newNoPins);
        edges.holds("1: no joints", PinEdgesTest::newNoJoints);
        edges.holds("1: nothing on the board: no pads, no copper", PinEdgesTest::newNoCopper);
        edges.holds("1: nothing on the board: no bars", PinEdgesTest::newNoBars);
        edges.holds("1: nothing read", PinEdgesTest::newNothingRead);
        edges.holds("Terms: the clearance is at first 1", PinEdgesTest::newClearance);
        edges.holds("1: nothing to take back", PinEdgesTest::newNothingToTakeBack);
        edges.holds("1: a new object has nothing of another one", PinEdgesTest::newNothingShared);
    }

    private static void pin() {
        edges.holds("2: its number, from 0 as they are made", PinEdgesTest::pinNumbers);
        edges.holds("2: kinds 0 to 3", PinEdgesTest::pinKinds);
        edges.holds("2: NONE, refused, when there is no such kind", PinEdgesTest::pinNoSuchKind);
        edges.holds("2: FULL when there are 16", PinEdgesTest::pinFull);
        edges.holds("2: no such kind is NONE when there are 16, too", PinEdgesTest::pinFullNoKind);
        edges.holds("2: 16 again after undo", PinEdgesTest::pinFullAgain);
    }

    private static void join() {
        edges.holds("3: its number, behind the others", PinEdgesTest::joinNumbers);
        edges.holds("3: NONE, refused, when there is no such pin: p", PinEdgesTest::joinNoFirst);
        edges.holds("3: NONE, refused, when there is no such pin: q", PinEdgesTest::joinNoSecond);
        edges.holds("3: NONE, refused, when both are the same", PinEdgesTest::joinSame);
        edges.holds("3: two pins may be joined again", PinEdgesTest::joinAgain);
        edges.holds("3: FULL when there are 24", PinEdgesTest::joinFull);
        edges.holds("3: wrong pins are NONE when there are 24, too", PinEdgesTest::joinFullWrong);
    }

    private static void part() {
        edges.holds("4: how many are left", PinEdgesTest::partLeft);
        edges.holds("4: those behind it have numbers less by 1", PinEdgesTest::partMovesUp);
        edges.holds("4: NONE, refused, when there is none", PinEdgesTest::partNone);
        edges.holds("4: of 24 joints the first and the last", PinEdgesTest::partOfAll);
    }

    private static void net() {
        edges.holds("5: NONE: there is no such pin", PinEdgesTest::netNoPin);
        edges.holds("Terms: a net is named by its least pin", PinEdgesTest::netLeastPin);
        edges.holds("Terms: without joints each pin is a net", PinEdgesTest::netAlone);
    }

    private static void fault() {
        edges.holds("6: NONE when there is none: no pins", PinEdgesTest::faultNoPins);
        edges.holds("6: NONE when there is none: k", PinEdgesTest::faultNoSuch);
        edges.holds("6: NONE for another what", PinEdgesTest::faultAnotherWhat);
        edges.holds("Terms: CLASH: two outputs or more", PinEdgesTest::faultClash);
        edges.holds("Terms: DEAF: an input, and no output and no power", PinEdgesTest::faultDeaf);
        edges.holds("Terms: faults net by net in rising order", PinEdgesTest::faultOrder);
        edges.holds("Terms: a fault of each of 16 nets", PinEdgesTest::faultOfEachNet);
    }

    private static BoardDesk allJoints() {
        BoardDesk desk = Desks.withPins(4);
        for (int j = 0; j < 24; j++) {
            desk.join(j % 3, j % 3 + 1);
        }
        return desk;
    }

    private static void newNoPins() {
        BoardDesk desk = new BoardDesk();
        due.same("net(0)", desk.net(0), NONE);
        due.same("fault(0, 0)", desk.fault(0, 0), NONE);
        due.no("lift(0)", desk.lift(0));
        due.no("place(0, 0, 0, 1)", desk.place(0, 0, 0, 1));
        due.same("route(0)", desk.route(0), NONE);
        due.same("rip(0)", desk.rip(0), NONE);
        due.same("auto()", desk.auto(), 0);
        due.same("pin(0)", desk.pin(0), 0);
    }

    private static void newNoJoints() {
        due.same("part(0)", new BoardDesk().part(0), NONE);
        BoardDesk desk = Desks.withPins(2);
        due.same("part(0) with pins", desk.part(0), NONE);
        due.same("net(1)", desk.net(1), 1);
        due.same("join(0, 1)", desk.join(0, 1), 0);
    }

    private static void newNoCopper() {
        BoardDesk desk = new BoardDesk();
        for (int cell = 0; cell < 240; cell++) {
            due.same("copper(" + cell + ")", desk.copper(cell), NONE);
            due.no("erase(" + cell + ")", desk.erase(cell));
        }
        due.same("plot(0, 0)", desk.plot(0, 0), 255);
        due.same("plot(1, 0)", desk.plot(1, 0), 255);
        due.same("check(0, 0)", desk.check(0, 0), NONE);
    }

    private static void newNoBars() {
        BoardDesk desk = Desks.withPins(1);
        for (int cell = 0; cell < 240; cell++) {
            due.same("track over cell " + cell, desk.track(0, cell, 0, 0), 1);
        }
    }

    private static void newNothingRead() {
        due.same("read(7)", new BoardDesk().read(7), 1);
        BoardDesk desk = Desks.withPins(1);
        desk.place(0, 0, 0, 1);
        due.same("replay(0)", desk.replay(0), 1);
        due.same("replay(1)", desk.replay(1), 0);
    }

    private static void newClearance() {
        due.same("rule(2)", new BoardDesk().rule(2), 1);
        edges.leaves("rule(1)", NEW, desk -> desk.rule(1), 1);
    }

    private static void newNothingToTakeBack() {
        edges.leaves("undo()", NEW, BoardDesk::undo, NONE);
    }

    private static void newNothingShared() {
        BoardDesk one = Desks.busy();
        BoardDesk other = new BoardDesk();
        due.same("other: net(0)", other.net(0), NONE);
        due.same("other: copper(0)", other.copper(0), NONE);
        due.same("other: read(1)", other.read(1), 1);
        due.same("other: undo()", other.undo(), NONE);
        due.same("other: rule(1)", other.rule(1), 1);
        due.same("other: pin(0)", other.pin(0), 0);
        due.same("other: track over the barred cell", other.track(0, 100, 0, 0), 1);
        due.same("other: part(0)", other.part(0), NONE);
        due.same("one: copper(100)", one.copper(100), NONE);
        due.same("one: undo()", one.undo(), 14);
    }

    private static void pinNumbers() {
        BoardDesk desk = new BoardDesk();
        for (int p = 0; p < 16; p++) {
            due.same("net(" + p + ") before it is made", desk.net(p), NONE);
            due.same("pin " + p, desk.pin(Desks.PASSIVE), p);
            due.same("net(" + p + ")", desk.net(p), p);
        }
    }

    private static void pinKinds() {
        for (int kind = 0; kind <= 3; kind++) {
            int made = kind;
            edges.changes("pin(" + kind + ")", BUSY, desk -> desk.pin(made), 5);
        }
        BoardDesk desk = Desks.withKinds(0, 1, 2, 3);
        due.same("of four kinds only the input is deaf", desk.fault(0, 1), 0);
        due.same("and no other is", desk.fault(1, 0), NONE);
    }

    private static void pinNoSuchKind() {
        for (Supplier<BoardDesk> maker : DESKS) {
            for (int kind : new int[] {-1, 4, 5, Edges.LEAST, Edges.GREATEST}) {
                edges.leaves("pin(" + kind + ")", maker, desk -> desk.pin(kind), NONE);
            }
        }
    }

    private static void pinFull() {
        due.same("pin 15", Desks.withPins(15).pin(0), 15);
        for (int kind = 0; kind <= 3; kind++) {
            int made = kind;
            edges.leaves("pin(" + kind + ")", ALL_PINS, desk -> desk.pin(made), FULL);
        }
    }

    private static void pinFullNoKind() {
        edges.leaves("pin(4)", ALL_PINS, desk -> desk.pin(4), NONE);
        edges.leaves("pin(-1)", ALL_PINS, desk -> desk.pin(-1), NONE);
    }

    private static void pinFullAgain() {
        BoardDesk desk = Desks.withPins(16);
        due.same("undo()", desk.undo(), 15);
        due.same("net(15)", desk.net(15), NONE);
        due.same("pin(0), an input instead", desk.pin(0), 15);
        due.same("fault(0, 1)", desk.fault(0, 1), 15);
        due.same("pin(0), one too many", desk.pin(0), FULL);
    }

    private static void joinNumbers() {
        BoardDesk desk = Desks.withPins(16);
        for (int j = 0; j < 15; j++) {
            due.same("join(" + j + ", ..)", desk.join(j, j + 1), j);
        }
        edges.changes("join(0, 4)", BUSY, busy -> busy.join(0, 4), 2);
        edges.changes("join(4, 0)", BUSY, busy -> busy.join(4, 0), 2);
    }

    private static void joinNoFirst() {
        for (int p : new int[] {-1, 5, 16, Edges.LEAST, Edges.GREATEST}) {
            edges.leaves("join(" + p + ", 0)", BUSY, desk -> desk.join(p, 0), NONE);
            edges.leaves("join(" + p + ", 0)", CROWDED, desk -> desk.join(p, 0), NONE);
        }
        edges.leaves("join(0, 1) without pins", NEW, desk -> desk.join(0, 1), NONE);
    }

    private static void joinNoSecond() {
        for (int q : new int[] {-1, 5, 16, Edges.LEAST, Edges.GREATEST}) {
            edges.leaves("join(4, " + q + ")", BUSY, desk -> desk.join(4, q), NONE);
            edges.leaves("join(4, " + q + ")", CROWDED, desk -> desk.join(4, q), NONE);
        }
        edges.leaves("join(15, 16)", ALL_PINS, desk -> desk.join(15, 16), NONE);
    }

    private static void joinSame() {
        edges.leaves("join(0, 0)", BUSY, desk -> desk.join(0, 0), NONE);
        edges.leaves("join(4, 4)", CROWDED, desk -> desk.join(4, 4), NONE);
        edges.leaves("join(15, 15)", ALL_PINS, desk -> desk.join(15, 15), NONE);
    }

    private static void joinAgain() {
        edges.changes("join(0, 1) again", BUSY, desk -> desk.join(0, 1), 2);
        edges.changes("join(1, 0) again", BUSY, desk -> desk.join(1, 0), 2);
        BoardDesk desk = Desks.withPins(2);
        desk.join(0, 1);
        desk.join(1, 0);
        due.same("part(0)", desk.part(0), 1);
        due.same("net(1) by the other joint", desk.net(1), 0);
    }

    private static void joinFull() {
        BoardDesk desk = Desks.withPins(3);
        for (int j = 0; j < 24; j++) {
            due.same("joint " + j, desk.join(0, 1), j);
        }
        due.same("joint 24", desk.join(0, 2), FULL);
        due.same("net(2)", desk.net(2), 2);
        edges.leaves("join(0, 3)", ALL_JOINTS, full -> full.join(0, 3), FULL);
        edges.leaves("join(0, 1)", ALL_JOINTS, full -> full.join(0, 1), FULL);
    }

    private static void joinFullWrong() {
        edges.leaves("join(0, 4)", ALL_JOINTS, desk -> desk.join(0, 4), NONE);
        edges.leaves("join(-1, 0)", ALL_JOINTS, desk -> desk.join(-1, 0), NONE);
        edges.leaves("join(2, 2)", ALL_JOINTS, desk -> desk.join(2, 2), NONE);
    }

    private static void partLeft() {
        edges.changes("part(0)", BUSY, desk -> desk.part(0), 1);
        edges.changes("part(1)", BUSY, desk -> desk.part(1), 1);
        BoardDesk desk = Desks.withPins(2);
        desk.join(0, 1);
        due.same("part(0), the only one", desk.part(0), 0);
        due.same("net(1)", desk.net(1), 1);
    }

    private static void partMovesUp() {
        BoardDesk desk = Desks.withPins(8);
        desk.join(0, 1);
        desk.join(2, 3);
        desk.join(4, 5);
        desk.join(6, 7);
        due.same("part(1)", desk.part(1), 3);
        due.same("net(3), joint 1 is gone", desk.net(3), 3);
        due.same("part(1), joint 2 before", desk.part(1), 2);
        due.same("net(5), it is gone", desk.net(5), 5);
        due.same("net(1), joint 0 stays", desk.net(1), 0);
        due.same("net(7), joint 3 stays", desk.net(7), 6);
        due.same("join(2, 5), behind them", desk.join(2, 5), 2);
        due.same("part(1), joint 3 at first", desk.part(1), 2);
        due.same("net(7), it is gone", desk.net(7), 7);
        due.same("net(5), the new one stays", desk.net(5), 2);
    }

    private static void partNone() {
        for (int j : new int[] {-1, 2, 24, Edges.LEAST, Edges.GREATEST}) {
            edges.leaves("part(" + j + ")", BUSY, desk -> desk.part(j), NONE);
        }
        for (int j : new int[] {-1, 3, 24}) {
            edges.leaves("part(" + j + ")", CROWDED, desk -> desk.part(j), NONE);
        }
        edges.leaves("part(0) without joints", NEW, desk -> desk.part(0), NONE);
        edges.leaves("part(0) without joints", ALL_PINS, desk -> desk.part(0), NONE);
        edges.leaves("part(24)", ALL_JOINTS, desk -> desk.part(24), NONE);
    }

    private static void partOfAll() {
        BoardDesk desk = Desks.withPins(16);
        for (int j = 0; j < 15; j++) {
            desk.join(j, j + 1);
        }
        for (int j = 15; j < 24; j++) {
            desk.join(1, 2);
        }
        due.same("part(0)", desk.part(0), 23);
        due.same("net(15) then", desk.net(15), 1);
        due.same("part(23)", desk.part(23), NONE);
        due.same("join(0, 15)", desk.join(0, 15), 23);
        due.same("net(15) by the last joint", desk.net(15), 0);
        due.same("join(0, 15), one too many", desk.join(0, 15), FULL);
        due.same("part(23), the last one", desk.part(23), 23);
        due.same("net(15) without it", desk.net(15), 1);
    }

    private static void netNoPin() {
        for (int p : new int[] {-1, 5, 15, 16, Edges.LEAST, Edges.GREATEST}) {
            edges.leaves("net(" + p + ")", BUSY, desk -> desk.net(p), NONE);
        }
        due.same("net(0) without pins", new BoardDesk().net(0), NONE);
        due.same("net(16) with 16 pins", Desks.withPins(16).net(16), NONE);
        edges.leaves("net(3)", CROWDED, desk -> desk.net(3), 2);
    }

    private static void netLeastPin() {
        // Each joint brings a lesser name, which all pins behind it have to learn.
        BoardDesk desk = Desks.withPins(16);
        for (int p = 15; p > 0; p--) {
            desk.join(p, p - 1);
            for (int q = p - 1; q < 16; q++) {
                due.same("net(" + q + ") from " + (p - 1) + " on", desk.net(q), p - 1);
            }
        }
        due.same("part(7), of 8 and 7", desk.part(7), 14);
        due.same("net(15) behind the gap", desk.net(15), 8);
        due.same("net(7) before the gap", desk.net(7), 0);
    }

    private static void netAlone() {
        BoardDesk desk = Desks.withPins(16);
        for (int p = 0; p < 16; p++) {
            due.same("net(" + p + ")", desk.net(p), p);
        }
    }

    private static void faultNoPins() {
        edges.leaves("fault(0, 0)", NEW, desk -> desk.fault(0, 0), NONE);
        edges.leaves("fault(0, 1)", NEW, desk -> desk.fault(0, 1), NONE);
    }

    private static void faultNoSuch() {
        edges.leaves("fault(0, 1)", BUSY, desk -> desk.fault(0, 1), 4);
        for (int k : new int[] {-1, 1, 16, Edges.LEAST, Edges.GREATEST}) {
            edges.leaves("fault(" + k + ", 0)", BUSY, desk -> desk.fault(k, 0), NONE);
            edges.leaves("fault(" + k + ", 1)", BUSY, desk -> desk.fault(k, 1), NONE);
        }
    }

    private static void faultAnotherWhat() {
        for (int what : new int[] {-1, 2, 3, Edges.LEAST, Edges.GREATEST}) {
            edges.leaves("fault(0, " + what + ")", BUSY, desk -> desk.fault(0, what), NONE);
        }
    }

    /** The faults of one net of such pins. */
    private static void faultOf(String told, int wanted, int... kinds) {
        BoardDesk desk = Desks.withKinds(kinds);
        for (int p = 1; p < kinds.length; p++) {
            desk.join(p, p - 1);
        }
        due.same(told + ": fault(0, 0)", desk.fault(0, 0), wanted);
        due.same(told + ": fault(0, 1)", desk.fault(0, 1), wanted == NONE ? NONE : 0);
        due.same(told + ": fault(1, 0)", desk.fault(1, 0), NONE);
    }

    private static void faultClash() {
        faultOf("one output", NONE, 1);
        faultOf("two outputs", CLASH, 1, 1);
        faultOf("three outputs", CLASH, 1, 1, 1);
        faultOf("16 outputs", CLASH, 1, 1, 1, 1, 1, 1, 1, 1, 1, 1, 1, 1, 1, 1, 1, 1);
        faultOf("two outputs far apart", CLASH, 2, 1, 0, 3, 1);
        faultOf("output and power", NONE, 1, 3);
        faultOf("two powers", NONE, 3, 3);
        faultOf("two inputs, output", NONE, 0, 0, 1);
        BoardDesk desk = Desks.withKinds(1, 1);
        due.same("two outputs not joined", desk.fault(0, 0), NONE);
        desk.join(0, 1);
        due.same("joined", desk.fault(0, 0), CLASH);
        desk.part(0);
        due.same("parted", desk.fault(0, 0), NONE);
    }

    private static void faultDeaf() {
        faultOf("input", DEAF, 0);
        faultOf("two inputs", DEAF, 0, 0);
        faultOf("input and passive", DEAF, 0, 2);
        faultOf("passive and input", DEAF, 2, 0);
        faultOf("input and output", NONE, 0, 1);
        faultOf("input and power", NONE, 0, 3);
        faultOf("input, output, power", NONE, 0, 1, 3);
        faultOf("passive", NONE, 2);
        faultOf("power", NONE, 3);
    }

    private static void faultOrder() {
        BoardDesk desk = Desks.withKinds(2, 0, 1, 0, 1, 0, 1, 1);
        desk.join(7, 6);
        desk.join(5, 1);
        desk.join(4, 2);
        int[][] wanted = {{DEAF, 1}, {CLASH, 2}, {DEAF, 3}, {CLASH, 6}};
        for (int k = 0; k < wanted.length; k++) {
            due.same("fault(" + k + ", 0)", desk.fault(k, 0), wanted[k][0]);
            due.same("fault(" + k + ", 1)", desk.fault(k, 1), wanted[k][1]);
        }
        due.same("fault(4, 0)", desk.fault(4, 0), NONE);
    }

    private static void faultOfEachNet() {
        BoardDesk desk = new BoardDesk();
        for (int p = 0; p < 16; p++) {
            desk.pin(Desks.INPUT);
        }
        for (int k = 0; k < 16; k++) {
            due.same("fault(" + k + ", 0)", desk.fault(k, 0), DEAF);
            due.same("fault(" + k + ", 1)", desk.fault(k, 1), k);
        }
        due.same("fault(16, 0)", desk.fault(16, 0), NONE);
    }
}
