import java.util.ArrayList;
import java.util.Comparator;
import java.util.HashMap;
import java.util.HashSet;
import java.util.List;
import java.util.Map;
import java.util.PriorityQueue;
import java.util.Set;
import java.util.TreeMap;
import java.util.TreeSet;

/**
 * The document written down a second time, as near to its words and as far from BoardDesk's ways
 * as can be: slow, with maps and sets, with whole ways in a queue. Random runs compare the two.
 */
final class PlainDesk {
    private static final int NONE = -1;
    private static final int FULL = -2;

    /** Everything that a change can change. */
    private static final class State {
        List<Integer> kinds = new ArrayList<>();
        List<List<Integer>> joints = new ArrayList<>();
        Map<Integer, Integer> pads = new TreeMap<>();
        Map<Integer, Integer> copper = new TreeMap<>();
        Set<Integer> bars = new TreeSet<>();
        int clearance = 1;

        State copy() {
            State copy = new State();
            copy.kinds.addAll(kinds);
            copy.joints.addAll(joints);
            copy.pads.putAll(pads);
            copy.copper.putAll(copper);
            copy.bars.addAll(bars);
            copy.clearance = clearance;
            return copy;
        }

        boolean same(State other) {
            return kinds.equals(other.kinds) && joints.equals(other.joints)
                    && pads.equals(other.pads) && copper.equals(other.copper)
                    && bars.equals(other.bars) && clearance == other.clearance;
        }
    }

    private record Way(int cost, List<Integer> cells) {
        int last() {
            return cells.get(cells.size() - 1);
        }
    }

    private static final Comparator<Way> CHEAPER = (a, b) -> {
        if (a.cost != b.cost) {
            return Integer.compare(a.cost, b.cost);
        }
        for (int i = 0; i < Math.min(a.cells.size(), b.cells.size()); i++) {
            if (!a.cells.get(i).equals(b.cells.get(i))) {
                return Integer.compare(a.cells.get(i), b.cells.get(i));
            }
        }
        return Integer.compare(a.cells.size(), b.cells.size());
    };

    private State now = new State();
    private final List<State> changes = new ArrayList<>();
    private final List<Integer> bytes = new ArrayList<>();

    private State before;

    private void begin() {
        before = now.copy();
    }

    private void end() {
        if (!before.same(now)) {
            changes.add(before);
            if (changes.size() > 16) {
                changes.remove(0);
            }
        }
    }

    private boolean noPin(int p) {
        return p < 0 || p >= now.kinds.size();
    }

    private boolean noCell(int cell) {
        return cell < 0 || cell > 239;
    }

    // Nets

    private Set<Integer> pinsWith(int p) {
        Set<Integer> found = new TreeSet<>(Set.of(p));
        boolean more = true;
        while (more) {
            more = false;
            for (List<Integer> joint : now.joints) {
                if (found.contains(joint.get(0)) != found.contains(joint.get(1))) {
                    found.addAll(joint);
                    more = true;
                }
            }
        }
        return found;
    }

    int net(int p) {
        return noPin(p) ? NONE : pinsWith(p).iterator().next();
    }

    private Set<Integer> nets() {
        Set<Integer> nets = new TreeSet<>();
        for (int p = 0; p < now.kinds.size(); p++) {
            nets.add(net(p));
        }
        return nets;
    }

    /** The net of each cell that belongs to one. */
    private Map<Integer, Integer> belongings() {
        Map<Integer, Integer> found = new TreeMap<>();
        now.pads.forEach((cell, p) -> found.put(cell, net(p)));
        now.copper.forEach((cell, p) -> found.put(cell, net(p)));
        return found;
    }

    private Set<Integer> cellsOf(int net) {
        Set<Integer> cells = new TreeSet<>();
        belongings().forEach((cell, of) -> {
            if (of == net) {
                cells.add(cell);
            }
        });
        return cells;
    }

    // The board

    private static int layer(int cell) {
        return cell / 120;
    }

    private static int row(int cell) {
        return (cell - 120 * layer(cell)) / 12;
    }

    private static int column(int cell) {
        return cell - 120 * layer(cell) - 12 * row(cell);
    }

    private boolean tooNear(int a, int b) {
        return layer(a) == layer(b) && Math.abs(row(a) - row(b)) <= now.clearance
                && Math.abs(column(a) - column(b)) <= now.clearance;
    }

    private boolean isFree(int cell, int net, Map<Integer, Integer> belongings) {
        if (now.bars.contains(cell)) {
            return false;
        }
        for (Map.Entry<Integer, Integer> entry : belongings.entrySet()) {
            if (entry.getValue() != net && tooNear(entry.getKey(), cell)) {
                return false;
            }
        }
        return true;
    }

    private static int stepCost(int a, int b) {
        int rows = Math.abs(row(a) - row(b));
        int columns = Math.abs(column(a) - column(b));
        if (layer(a) != layer(b)) {
            return rows == 0 && columns == 0 ? 30 : 0;
        }
        if (rows > 1 || columns > 1) {
            return 0;
        }
        return rows + columns == 2 ? 14 : 10 * (rows + columns);
    }

    private static List<Integer> neighbours(int cell) {
        List<Integer> found = new ArrayList<>();
        for (int other = 0; other < 240; other++) {
            if (stepCost(cell, other) > 0) {
                found.add(other);
            }
        }
        return found;
    }

    private static final List<List<Integer>> NEIGHBOURS = new ArrayList<>();

    static {
        for (int cell = 0; cell < 240; cell++) {
            NEIGHBOURS.add(neighbours(cell));
        }
    }

    private Set<Integer> padsOf(int p) {
        Set<Integer> cells = new TreeSet<>();
        now.pads.forEach((cell, of) -> {
            if (of == p) {
                cells.add(cell);
            }
        });
        return cells;
    }

    private Set<Integer> pieceOf(int cell, Set<Integer> netCells) {
        Set<Integer> piece = new TreeSet<>();
        spread(cell, netCells, piece);
        return piece;
    }

    private static void spread(int cell, Set<Integer> netCells, Set<Integer> piece) {
        if (netCells.contains(cell) && piece.add(cell)) {
            for (int next : NEIGHBOURS.get(cell)) {
                spread(next, netCells, piece);
            }
        }
    }

    private List<Integer> placedPins(int net) {
        List<Integer> placed = new ArrayList<>();
        for (int p = 0; p < now.kinds.size(); p++) {
            if (net(p) == net && !padsOf(p).isEmpty()) {
                placed.add(p);
            }
        }
        return placed;
    }

    private Set<Integer> firstPiece(int net) {
        int first = placedPins(net).get(0);
        return pieceOf(padsOf(first).iterator().next(), cellsOf(net));
    }

    private int missing(int net) {
        List<Integer> placed = placedPins(net);
        if (placed.size() < 2) {
            return NONE;
        }
        Set<Integer> piece = firstPiece(net);
        for (int p : placed) {
            if (!piece.containsAll(padsOf(p))) {
                return p;
            }
        }
        return NONE;
    }

    /** The least of the cheapest ways, as whole ways are taken in order; null: there is none. */
    private Way bestWay(int net, int missing) {
        Set<Integer> goal = firstPiece(net);
        Map<Integer, Integer> belongings = belongings();
        PriorityQueue<Way> queue = new PriorityQueue<>(CHEAPER);
        for (int pad : padsOf(missing)) {
            queue.add(new Way(0, List.of(pad)));
        }
        Set<Integer> done = new HashSet<>();
        while (!queue.isEmpty()) {
            Way way = queue.remove();
            if (goal.contains(way.last())) {
                return way;
            }
            if (!done.add(way.last())) {
                continue;
            }
            for (int next : NEIGHBOURS.get(way.last())) {
                boolean leads = goal.contains(next) || isFree(next, net, belongings);
                if (!leads || done.contains(next)) {
                    continue;
                }
                List<Integer> cells = new ArrayList<>(way.cells);
                cells.add(next);
                queue.add(new Way(way.cost + stepCost(way.last(), next), cells));
            }
        }
        return null;
    }

    private void lay(int cell, int p) {
        if (!now.pads.containsKey(cell)) {
            now.copper.put(cell, p);
        }
    }

    private int routeNet(int net) {
        int missing = missing(net);
        if (missing == NONE) {
            return 0;
        }
        Way way = bestWay(net, missing);
        if (way == null) {
            return FULL;
        }
        for (int cell : way.cells) {
            lay(cell, missing);
        }
        return way.cost;
    }

    // The face

    int pin(int kind) {
        if (kind < 0 || kind > 3) {
            return NONE;
        }
        if (now.kinds.size() == 16) {
            return FULL;
        }
        begin();
        now.kinds.add(kind);
        end();
        return now.kinds.size() - 1;
    }

    int join(int p, int q) {
        if (noPin(p) || noPin(q) || p == q) {
            return NONE;
        }
        if (now.joints.size() == 24) {
            return FULL;
        }
        begin();
        now.joints.add(List.of(p, q));
        end();
        return now.joints.size() - 1;
    }

    int part(int j) {
        if (j < 0 || j >= now.joints.size()) {
            return NONE;
        }
        begin();
        now.joints.remove(j);
        end();
        return now.joints.size();
    }

    int fault(int k, int what) {
        List<int[]> faults = new ArrayList<>();
        for (int net : nets()) {
            Map<Integer, Integer> counts = new HashMap<>();
            for (int p : pinsWith(net)) {
                counts.merge(now.kinds.get(p), 1, Integer::sum);
            }
            if (counts.getOrDefault(1, 0) >= 2) {
                faults.add(new int[] {1, net});
            }
            if (counts.containsKey(0) && !counts.containsKey(1) && !counts.containsKey(3)) {
                faults.add(new int[] {2, net});
            }
        }
        return toldOf(faults, k, what, 2);
    }

    private static int toldOf(List<int[]> faults, int k, int what, int whats) {
        boolean there = k >= 0 && k < faults.size() && what >= 0 && what < whats;
        return there ? faults.get(k)[what] : NONE;
    }

    boolean place(int p, int x, int y, int layers) {
        if (noPin(p) || x < 0 || x > 11 || y < 0 || y > 9 || layers < 1 || layers > 3) {
            return false;
        }
        if (!padsOf(p).isEmpty()) {
            return false;
        }
        List<Integer> cells = new ArrayList<>();
        if (layers == 1 || layers == 3) {
            cells.add(12 * y + x);
        }
        if (layers == 2 || layers == 3) {
            cells.add(120 + 12 * y + x);
        }
        Map<Integer, Integer> belongings = belongings();
        for (int cell : cells) {
            if (belongings.containsKey(cell) || !isFree(cell, net(p), belongings)) {
                return false;
            }
        }
        begin();
        for (int cell : cells) {
            now.pads.put(cell, p);
        }
        end();
        return true;
    }

    boolean lift(int p) {
        begin();
        boolean was = now.pads.values().removeIf(of -> of == p);
        end();
        return was;
    }

    int rule(int clearance) {
        if (clearance != 1 && clearance != 2) {
            return NONE;
        }
        int was = now.clearance;
        begin();
        now.clearance = clearance;
        end();
        return was;
    }

    boolean bar(int cell, boolean is) {
        if (noCell(cell) || is && belongings().containsKey(cell)) {
            return false;
        }
        begin();
        if (is) {
            now.bars.add(cell);
        } else {
            now.bars.remove(cell);
        }
        end();
        return now.bars.contains(cell);
    }

    int track(int p, int cell, int direction, int length) {
        if (noPin(p) || noCell(cell) || direction < 0 || direction > 8) {
            return NONE;
        }
        if (length < 0 || length > (direction == 8 ? 1 : 11)) {
            return NONE;
        }
        List<Integer> cells = trackCells(cell, direction, length);
        Map<Integer, Integer> belongings = belongings();
        for (int one : cells) {
            if (!isFree(one, net(p), belongings)) {
                return NONE;
            }
        }
        if (cells.isEmpty()) {
            return NONE;
        }
        begin();
        int fresh = 0;
        for (int one : cells) {
            fresh += belongings.containsKey(one) ? 0 : 1;
            lay(one, p);
        }
        end();
        return fresh;
    }

    /** No cells when the board ends. */
    private static List<Integer> trackCells(int cell, int direction, int length) {
        List<Integer> cells = new ArrayList<>();
        for (int step = 0; step <= length; step++) {
            int x = column(cell);
            int y = row(cell);
            int l = layer(cell);
            switch (direction) {
                case 0 -> x += step;
                case 1 -> { x += step; y += step; }
                case 2 -> y += step;
                case 3 -> { x -= step; y += step; }
                case 4 -> x -= step;
                case 5 -> { x -= step; y -= step; }
                case 6 -> y -= step;
                case 7 -> { x += step; y -= step; }
                default -> l = step == 0 ? l : 1 - l;
            }
            if (x < 0 || x > 11 || y < 0 || y > 9) {
                return List.of();
            }
            cells.add(120 * l + 12 * y + x);
        }
        return cells;
    }

    boolean erase(int cell) {
        begin();
        boolean was = now.copper.remove(cell) != null;
        end();
        return was;
    }

    int route(int p) {
        if (noPin(p)) {
            return NONE;
        }
        begin();
        int cost = routeNet(net(p));
        end();
        return cost;
    }

    int rip(int p) {
        if (noPin(p)) {
            return NONE;
        }
        int had = now.copper.size();
        begin();
        Set<Integer> pins = pinsWith(p);
        now.copper.values().removeIf(pins::contains);
        end();
        return had - now.copper.size();
    }

    int auto() {
        List<Integer> order = new ArrayList<>();
        for (int net : nets()) {
            if (placedPins(net).size() >= 2) {
                order.add(net);
            }
        }
        order.sort(Comparator.comparing(this::span).thenComparing(net -> net));
        begin();
        for (int net : order) {
            while (routeNet(net) > 0) {
                continue;
            }
        }
        end();
        return (int) order.stream().filter(net -> missing(net) == NONE).count();
    }

    private int span(int net) {
        TreeSet<Integer> columns = new TreeSet<>();
        TreeSet<Integer> rows = new TreeSet<>();
        for (int p : placedPins(net)) {
            columns.add(column(padsOf(p).iterator().next()));
            rows.add(row(padsOf(p).iterator().next()));
        }
        return columns.last() - columns.first() + rows.last() - rows.first();
    }

    int copper(int cell) {
        return belongings().getOrDefault(cell, NONE);
    }

    int check(int k, int what) {
        return toldOf(boardFaults(), k, what, 4);
    }

    private List<int[]> boardFaults() {
        List<int[]> faults = new ArrayList<>();
        for (int net : nets()) {
            if (missing(net) != NONE) {
                faults.add(new int[] {1, net, missing(net), NONE});
            }
        }
        for (int lesser : nets()) {
            for (int greater : nets()) {
                int cell = greater > lesser ? nearCell(lesser, greater) : NONE;
                if (cell != NONE) {
                    faults.add(new int[] {2, lesser, greater, cell});
                }
            }
        }
        return faults;
    }

    private int nearCell(int lesser, int greater) {
        Set<Integer> others = cellsOf(greater);
        for (int cell : cellsOf(lesser)) {
            for (int other : others) {
                if (tooNear(cell, other)) {
                    return cell;
                }
            }
        }
        return NONE;
    }

    int plot(int layer, int i) {
        if (layer < 0 || layer > 1) {
            return NONE;
        }
        List<Integer> plot = wholePlot(layer);
        return i >= 0 && i < plot.size() ? plot.get(i) : NONE;
    }

    private List<Integer> wholePlot(int layer) {
        Map<Integer, Integer> belongings = belongings();
        List<Integer> plot = new ArrayList<>();
        for (int y = 0; y < 10; y++) {
            int netBefore = NONE;
            for (int x = 0; x < 12; x++) {
                int net = belongings.getOrDefault(120 * layer + 12 * y + x, NONE);
                if (net != NONE && net == netBefore) {
                    plot.set(plot.size() - 2, plot.get(plot.size() - 2) + 1);
                } else if (net != NONE) {
                    plot.addAll(List.of(y, x, 1, net + 1));
                }
                netBefore = net;
            }
        }
        plot.add(255);
        return plot;
    }

    int read(int value) {
        if (value < 0 || value > 255) {
            return NONE;
        }
        if (bytes.size() == 400) {
            return FULL;
        }
        bytes.add(value);
        return bytes.size();
    }

    int replay(int layer) {
        if (layer < 0 || layer > 1) {
            return NONE;
        }
        Map<Integer, Integer> told = new HashMap<>();
        List<Integer> rest = new ArrayList<>(bytes);
        while (rest.size() >= 4 && rest.get(0) != 255) {
            for (int x = rest.get(1); x < rest.get(1) + rest.get(2); x++) {
                if (rest.get(0) < 10 && x < 12) {
                    told.put(120 * layer + 12 * rest.get(0) + x, rest.get(3) - 1);
                }
            }
            rest = rest.subList(4, rest.size());
        }
        bytes.clear();
        int differing = 0;
        for (int cell = 120 * layer; cell < 120 * layer + 120; cell++) {
            differing += told.getOrDefault(cell, NONE) == copper(cell) ? 0 : 1;
        }
        return differing;
    }

    int undo() {
        if (changes.isEmpty()) {
            return NONE;
        }
        now = changes.remove(changes.size() - 1);
        return changes.size();
    }
}
