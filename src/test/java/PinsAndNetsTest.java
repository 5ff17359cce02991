/** Promises 1 to 6: a new object, pin, join, part, net, fault. */
public final class PinsAndNetsTest {
    private static final int INPUT = Desks.INPUT;
    private static final int OUTPUT = Desks.OUTPUT;
    private static final int PASSIVE = Desks.PASSIVE;
    private static final int POWER = Desks.POWER;

    private static final Due due = new Due();

    public static void main(String[] args) {
        promise1NewObject();
        promise1ObjectsShareNothing();
        promise2Pin();
        promise3Join();
        promise3JoinAtTheLimit();
        promise4Part();
        promise5Net();
        promise6Fault();
        promise6FaultOrder();
        due.finish();
    }

    private static void promise1NewObject() {
        BoardDesk desk = new BoardDesk();
        due.same("new: net(0)", desk.net(0), -1);
        due.same("new: part(0)", desk.part(0), -1);
        due.same("new: fault(0, 0)", desk.fault(0, 0), -1);
        due.same("new: check(0, 0)", desk.check(0, 0), -1);
        due.same("new: undo()", desk.undo(), -1);
        due.same("new: auto()", desk.auto(), 0);
        for (int cell = 0; cell < 240; cell++) {
            due.same("new: copper", desk.copper(cell), -1);
            due.no("new: bar, to free it", desk.bar(cell, false));
        }
        due.same("new: plot(0, 0)", desk.plot(0, 0), 255);
        due.same("new: plot(1, 0)", desk.plot(1, 0), 255);
        due.same("new: replay(0)", desk.replay(0), 0);
        due.same("new: rule(1)", desk.rule(1), 1);
        due.same("new: undo() after calls without change", desk.undo(), -1);
        due.same("new: read(0)", desk.read(0), 1);
        due.same("new: pin(0)", desk.pin(0), 0);
    }

    private static void promise1ObjectsShareNothing() {
        BoardDesk one = Desks.withKinds(OUTPUT, INPUT);
        one.join(0, 1);
        one.place(0, 0, 0, 3);
        one.bar(5, true);
        one.rule(2);
        one.read(7);
        BoardDesk other = new BoardDesk();
        due.same("other: copper(0)", other.copper(0), -1);
        due.no("other: bar(6, false)", other.bar(6, false));
        due.same("other: rule(2)", other.rule(2), 1);
        due.same("other: read(1)", other.read(1), 1);
        due.same("other: pin(0)", other.pin(0), 0);
        due.same("other: part(0)", other.part(0), -1);
        due.same("one: net(1)", one.net(1), 0);
    }

    private static void promise2Pin() {
        BoardDesk desk = new BoardDesk();
        due.same("pin(-1)", desk.pin(-1), -1);
        due.same("pin(4)", desk.pin(4), -1);
        due.same("pin(least int)", desk.pin(Integer.MIN_VALUE), -1);
        due.same("pin(greatest int)", desk.pin(Integer.MAX_VALUE), -1);
        for (int p = 0; p < 16; p++) {
            due.same("pin " + p, desk.pin(p % 4), p);
        }
        due.same("pin 16", desk.pin(0), -2);
        due.same("pin 16 again", desk.pin(3), -2);
        due.same("pin 16 of no kind", desk.pin(4), -1);
        due.same("net(15)", desk.net(15), 15);
        due.same("net(16)", desk.net(16), -1);
        due.same("undo() of a pin", desk.undo(), 15);
        due.same("pin in its place", desk.pin(2), 15);
    }

    private static void promise3Join() {
        BoardDesk desk = Desks.withKinds(PASSIVE, PASSIVE, PASSIVE);
        due.same("join(0, 3)", desk.join(0, 3), -1);
        due.same("join(3, 0)", desk.join(3, 0), -1);
        due.same("join(-1, 0)", desk.join(-1, 0), -1);
        due.same("join(0, -1)", desk.join(0, -1), -1);
        due.same("join(1, 1)", desk.join(1, 1), -1);
        due.same("join(greatest int, 0)", desk.join(Integer.MAX_VALUE, 0), -1);
        due.same("join(2, 1)", desk.join(2, 1), 0);
        due.same("join(2, 1) again", desk.join(2, 1), 1);
        due.same("join(1, 2)", desk.join(1, 2), 2);
        due.same("net(2)", desk.net(2), 1);
        due.same("net(0)", desk.net(0), 0);
    }

    private static void promise3JoinAtTheLimit() {
        BoardDesk desk = Desks.withKinds(PASSIVE, PASSIVE, PASSIVE);
        for (int j = 0; j < 24; j++) {
            due.same("joint " + j, desk.join(0, 1), j);
        }
        due.same("joint 24", desk.join(0, 2), -2);
        due.same("net(2)", desk.net(2), 2);
        due.same("joint 24 of no pin", desk.join(0, 3), -1);
        due.same("joint 24 of one pin", desk.join(1, 1), -1);
        due.same("part(23)", desk.part(23), 23);
        due.same("joint 23", desk.join(0, 2), 23);
        due.same("net(2) then", desk.net(2), 0);
    }

    private static void promise4Part() {
        BoardDesk desk = Desks.withKinds(PASSIVE, PASSIVE, PASSIVE, PASSIVE);
        desk.join(0, 1);
        desk.join(1, 2);
        desk.join(2, 3);
        due.same("part(3)", desk.part(3), -1);
        due.same("part(-1)", desk.part(-1), -1);
        due.same("net(3)", desk.net(3), 0);
        due.same("part(0)", desk.part(0), 2);
        due.same("net(1)", desk.net(1), 1);
        due.same("net(3) after part(0)", desk.net(3), 1);
        // What was joint 1 has the number 0 now.
        due.same("part(0) again", desk.part(0), 1);
        due.same("net(2)", desk.net(2), 2);
        due.same("net(3) after part(0) again", desk.net(3), 2);
        due.same("join(0, 3)", desk.join(0, 3), 1);
        due.same("part(1)", desk.part(1), 1);
        due.same("part(0), the last", desk.part(0), 0);
        due.same("part(0), none left", desk.part(0), -1);
    }

    private static void promise5Net() {
        BoardDesk desk = Desks.withKinds(PASSIVE, PASSIVE, PASSIVE, PASSIVE, PASSIVE, PASSIVE);
        desk.join(5, 4);
        desk.join(2, 3);
        desk.join(3, 5);
        due.same("net(5)", desk.net(5), 2);
        due.same("net(4)", desk.net(4), 2);
        due.same("net(3)", desk.net(3), 2);
        due.same("net(1)", desk.net(1), 1);
        desk.join(4, 1);
        for (int p = 1; p < 6; p++) {
            due.same("net(" + p + ") then", desk.net(p), 1);
        }
        due.same("net(0)", desk.net(0), 0);
        due.same("net(-1)", desk.net(-1), -1);
        due.same("net(6)", desk.net(6), -1);
        // A ring of joints holds when one of them goes.
        desk.join(1, 2);
        desk.part(2);
        due.same("net(5) in the ring", desk.net(5), 1);
    }

    private static void promise6Fault() {
        faultOf("passive alone", -1, PASSIVE);
        faultOf("input alone", 2, INPUT);
        faultOf("output alone", -1, OUTPUT);
        faultOf("power alone", -1, POWER);
        faultOf("input, passive", 2, INPUT, PASSIVE);
        faultOf("input, output", -1, INPUT, OUTPUT);
        faultOf("input, power", -1, INPUT, POWER);
        faultOf("two outputs", 1, OUTPUT, OUTPUT);
        faultOf("two outputs, input", 1, OUTPUT, INPUT, OUTPUT);
        faultOf("three outputs", 1, OUTPUT, OUTPUT, OUTPUT);
        faultOf("two powers", -1, POWER, POWER);
        faultOf("output, power", -1, OUTPUT, POWER);
    }

    private static void faultOf(String of, int kind, int... kinds) {
        BoardDesk desk = Desks.withKinds(kinds);
        for (int p = 1; p < kinds.length; p++) {
            desk.join(p - 1, p);
        }
        due.same(of + ": fault(0, 0)", desk.fault(0, 0), kind);
        due.same(of + ": fault(0, 1)", desk.fault(0, 1), kind == -1 ? -1 : 0);
        due.same(of + ": fault(1, 0)", desk.fault(1, 0), -1);
    }

    private static void promise6FaultOrder() {
        BoardDesk desk = Desks.withKinds(PASSIVE, INPUT, OUTPUT, INPUT, OUTPUT, INPUT);
        desk.join(5, 1);
        desk.join(4, 2);
        int[][] wanted = {{2, 1}, {1, 2}, {2, 3}};
        for (int k = 0; k < wanted.length; k++) {
            due.same("fault(" + k + ", 0)", desk.fault(k, 0), wanted[k][0]);
            due.same("fault(" + k + ", 1)", desk.fault(k, 1), wanted[k][1]);
        }
        due.same("fault(3, 0)", desk.fault(3, 0), -1);
        due.same("fault(-1, 0)", desk.fault(-1, 0), -1);
        due.same("fault(0, 2)", desk.fault(0, 2), -1);
        due.same("fault(0, -1)", desk.fault(0, -1), -1);
        due.same("fault(greatest int, 0)", desk.fault(Integer.MAX_VALUE, 0), -1);
        desk.undo();
        due.same("fault(1, 1) when the clash is gone", desk.fault(1, 1), 3);
    }
}
