import java.util.ArrayList;
import java.util.List;
import java.util.function.Function;
import java.util.function.Supplier;

/**
 * All that calls can find out about a desk, as lines of text, with what stands when its changes
 * are taken back one by one. Much of it is seen only by calls that change the desk, and a desk is
 * good for 512 calls alone: so each look takes a desk of its own, made in the same way.
 */
final class State {
    private static final int NONE = -1;
    private static final int PINS = 16;
    private static final int CELLS = 240;
    private static final int PASSIVE = 2;
    /** More than can ever be taken back. */
    private static final int DEPTH = 17;
    /** More than there are joints, faults or bytes of a plot, so that no look goes on for ever. */
    private static final int MOST = 500;
    /** Cells of one look: few enough to leave calls for the making of the desk. */
    private static final int BATCH = 48;

    private static final List<Function<BoardDesk, String>> LOOKS = List.of(
            State::pins, State::nets, State::netFaults, State::partedNetFaults, State::joints,
            State::placedPins, State::clearance, State::boardFaults,
            desk -> plot(desk, 0), desk -> plot(desk, 1),
            State::bytesRead, desk -> differing(desk, 0), desk -> differing(desk, 1));

    private State() {
    }

    static List<String> of(Supplier<BoardDesk> maker) {
        List<String> lines = new ArrayList<>();
        int left = 0;
        for (int back = 0; back <= DEPTH && left != NONE; back++) {
            left = takenBack(maker.get(), back);
            lines.add(back + " taken back: left " + left);
            int times = back;
            addLooks(lines, back, () -> {
                BoardDesk desk = maker.get();
                takenBack(desk, times);
                return desk;
            });
        }
        return lines;
    }

    /** The same, but for what can be taken back still. */
    static List<String> withoutHistory(Supplier<BoardDesk> maker) {
        List<String> lines = new ArrayList<>();
        addLooks(lines, 0, maker);
        return lines;
    }

    private static int takenBack(BoardDesk desk, int times) {
        int left = 0;
        for (int time = 0; time < times; time++) {
            left = desk.undo();
        }
        return left;
    }

    private static void addLooks(List<String> lines, int back, Supplier<BoardDesk> maker) {
        for (Function<BoardDesk, String> look : LOOKS) {
            lines.add(back + " taken back: " + look.apply(maker.get()));
        }
        for (int from = 0; from < CELLS; from += BATCH) {
            lines.add(back + " taken back: nets from " + from + ":" + nets(maker.get(), from));
            lines.add(back + " taken back: holders from " + from + ":" + holders(maker.get(), from));
            lines.add(back + " taken back: copper from " + from + ":" + copper(maker.get(), from));
            lines.add(back + " taken back: bars from " + from + ":" + bars(maker.get(), from));
        }
    }

    private static String pins(BoardDesk desk) {
        return "the next pin " + desk.pin(PASSIVE);
    }

    private static String nets(BoardDesk desk) {
        StringBuilder told = new StringBuilder("nets of pins");
        for (int p = 0; p < PINS; p++) {
            told.append(' ').append(desk.net(p));
        }
        return told.toString();
    }

    private static String netFaults(BoardDesk desk) {
        StringBuilder told = new StringBuilder("faults of nets");
        for (int k = 0; k < MOST && desk.fault(k, 0) != NONE; k++) {
            told.append(' ').append(desk.fault(k, 0)).append(" of ").append(desk.fault(k, 1));
        }
        return told.toString();
    }

    /** Tells of kinds that don't show while the joints stand. */
    private static String partedNetFaults(BoardDesk desk) {
        partAll(desk);
        StringBuilder told = new StringBuilder("parted: ").append(netFaults(desk));
        for (int p = 1; p < PINS && desk.net(p) != NONE; p++) {
            desk.join(p - 1, p);
            told.append("; ").append(desk.fault(0, 0)).append(" of ").append(desk.fault(0, 1));
            desk.part(0);
        }
        return told.toString();
    }

    private static String joints(BoardDesk desk) {
        StringBuilder told = new StringBuilder("joints:");
        int left = desk.part(0);
        for (int times = 0; times < MOST && left != NONE; times++) {
            told.append(' ').append(left).append(" left, ").append(nets(desk)).append(';');
            left = desk.part(0);
        }
        return told.toString();
    }

    private static String placedPins(BoardDesk desk) {
        StringBuilder told = new StringBuilder("placed:");
        for (int p = 0; p < PINS; p++) {
            told.append(' ').append(desk.lift(p));
        }
        return told.toString();
    }

    private static String clearance(BoardDesk desk) {
        return "clearance " + desk.rule(1);
    }

    private static String boardFaults(BoardDesk desk) {
        StringBuilder told = new StringBuilder("faults of the board");
        for (int k = 0; k < MOST && desk.check(k, 0) != NONE; k++) {
            for (int what = 0; what < 4; what++) {
                told.append(' ').append(desk.check(k, what));
            }
            told.append(';');
        }
        return told.toString();
    }

    private static String plot(BoardDesk desk, int layer) {
        StringBuilder told = new StringBuilder("plot of layer ").append(layer).append(':');
        for (int i = 0; i < MOST && desk.plot(layer, i) != NONE; i++) {
            told.append(' ').append(desk.plot(layer, i));
        }
        return told.toString();
    }

    private static String bytesRead(BoardDesk desk) {
        return "the next byte " + desk.read(0);
    }

    private static String differing(BoardDesk desk, int layer) {
        return "replayed on layer " + layer + ": " + desk.replay(layer);
    }

    private static String nets(BoardDesk desk, int from) {
        StringBuilder told = new StringBuilder();
        for (int cell = from; cell < from + BATCH; cell++) {
            told.append(' ').append(desk.copper(cell));
        }
        return told.toString();
    }

    /** Without joints each cell tells of the pin that holds it. */
    private static String holders(BoardDesk desk, int from) {
        partAll(desk);
        return nets(desk, from);
    }

    private static String copper(BoardDesk desk, int from) {
        StringBuilder told = new StringBuilder();
        for (int cell = from; cell < from + BATCH; cell++) {
            told.append(' ').append(desk.erase(cell) ? 1 : 0);
        }
        return told.toString();
    }

    /** On a board without pads and copper a cell is free for any net unless it is barred. */
    private static String bars(BoardDesk desk, int from) {
        desk.pin(PASSIVE);
        for (int p = 0; p < PINS; p++) {
            desk.lift(p);
            desk.rip(p);
        }
        StringBuilder told = new StringBuilder();
        for (int cell = from; cell < from + BATCH; cell++) {
            told.append(' ').append(desk.track(0, cell, 0, 0) == NONE ? 1 : 0);
        }
        return told.toString();
    }

    private static void partAll(BoardDesk desk) {
        for (int times = 0; times < MOST && desk.part(0) != NONE; times++) {
            continue;
        }
    }
}
