import java.util.Arrays;

/**
 * A bench for small boards: pins are joined to nets and put on a board of two layers, copper is
 * laid by hand or along the cheapest ways, nets and distances are checked, layers are plotted as
 * bytes and read back, and changes are taken back one by one.
 */
public final class BoardDesk {
    public static final int NONE = -1;
    public static final int FULL = -2;
    public static final int CLASH = 1;
    public static final int DEAF = 2;
    public static final int OPEN = 1;
    public static final int NEAR = 2;

    private static final int MAX_PINS = 16;
    private static final int MAX_JOINTS = 24;
    private static final int MAX_CHANGES = 16;
    private static final int MAX_BYTES = 400;
    private static final int MAX_CLEARANCE = 2;

    private static final int LAYERS = 2;
    private static final int ROWS = 10;
    private static final int COLUMNS = 12;
    private static final int LAYER_CELLS = 120;
    private static final int CELLS = 240;

    private static final int KINDS = 4;
    private static final int INPUT = 0;
    private static final int OUTPUT = 1;
    private static final int POWER = 3;

    private static final int DIRECTIONS = 9;
    private static final int OTHER_LAYER = 8;
    private static final int[] RIGHT_STEPS = {1, 1, 0, -1, -1, -1, 0, 1};
    private static final int[] DOWN_STEPS = {0, 1, 1, 1, 0, -1, -1, -1};
    private static final int[] STEP_COSTS = {10, 14, 10, 14, 10, 14, 10, 14, 30};

    /** Far above the cost of any way: 240 cells at 30 each. */
    private static final int FAR = 1000000;

    private static final int RUN_BYTES = 4;
    private static final int PLOT_END = 255;
    private static final int MAX_BYTE = 255;

    private final Board board;
    private final History history;
    private final Router router;
    private final Tape tape;
    /** A number for each net, for the time of one call. */
    private final int[] perNet;

    public BoardDesk() {
        board = new Board();
        history = new History();
        router = new Router();
        tape = new Tape();
        perNet = new int[MAX_PINS];
    }

    public int pin(int kind) {
        if (kind < 0 || kind >= KINDS) {
            return NONE;
        }
        if (board.sheet.pins >= MAX_PINS) {
            return FULL;
        }
        history.begin(board.sheet);
        int made = board.addPin(kind);
        history.finish(board.sheet);
        return made;
    }

    public int join(int p, int q) {
        if (!board.isPin(p) || !board.isPin(q) || p == q) {
            return NONE;
        }
        if (board.sheet.joints >= MAX_JOINTS) {
            return FULL;
        }
        history.begin(board.sheet);
        int made = board.addJoint(p, q);
        history.finish(board.sheet);
        return made;
    }

    public int part(int j) {
        if (j < 0 || j >= board.sheet.joints) {
            return NONE;
        }
        history.begin(board.sheet);
        board.dropJoint(j);
        history.finish(board.sheet);
        return board.sheet.joints;
    }

    public int net(int p) {
        return board.isPin(p) ? board.netOf(p) : NONE;
    }

    public int fault(int k, int what) {
        if (k < 0 || what < 0 || what > 1) {
            return NONE;
        }
        int before = k;
        for (int net = 0; net < board.sheet.pins; net++) {
            int kind = board.netFault(net);
            if (kind == NONE) {
                continue;
            }
            if (before == 0) {
                return what == 0 ? kind : net;
            }
            before--;
        }
        return NONE;
    }

    public boolean place(int p, int x, int y, int layers) {
        if (!board.isPin(p) || board.isPlaced(p) || layers < 1 || layers > 3) {
            return false;
        }
        if (x < 0 || x >= COLUMNS || y < 0 || y >= ROWS) {
            return false;
        }
        int spot = y * COLUMNS + x;
        if (!board.takesPads(spot, layers, board.netOf(p))) {
            return false;
        }
        history.begin(board.sheet);
        board.addPads(p, spot, layers);
        history.finish(board.sheet);
        return true;
    }

    public boolean lift(int p) {
        if (!board.isPin(p) || !board.isPlaced(p)) {
            return false;
        }
        history.begin(board.sheet);
        board.dropPads(p);
        history.finish(board.sheet);
        return true;
    }

    public int rule(int clearance) {
        if (clearance < 1 || clearance > MAX_CLEARANCE) {
            return NONE;
        }
        int before = board.sheet.clearance;
        history.begin(board.sheet);
        board.sheet.clearance = clearance;
        history.finish(board.sheet);
        return before;
    }

    public boolean bar(int cell, boolean is) {
        if (!isCell(cell) || board.netAt(cell) != NONE) {
            return false;
        }
        history.begin(board.sheet);
        board.sheet.holders[cell] = is ? Sheet.BARRED : NONE;
        history.finish(board.sheet);
        return is;
    }

    public int track(int p, int cell, int direction, int length) {
        if (!board.isPin(p) || !isCell(cell) || direction < 0 || direction >= DIRECTIONS) {
            return NONE;
        }
        int most = direction == OTHER_LAYER ? 1 : COLUMNS - 1;
        if (length < 0 || length > most) {
            return NONE;
        }
        if (!board.takesTrack(board.netOf(p), cell, direction, length)) {
            return NONE;
        }
        history.begin(board.sheet);
        int fresh = board.layTrack(p, cell, direction, length);
        history.finish(board.sheet);
        return fresh;
    }

    public boolean erase(int cell) {
        if (!isCell(cell) || !board.isCopper(cell)) {
            return false;
        }
        history.begin(board.sheet);
        board.sheet.holders[cell] = NONE;
        history.finish(board.sheet);
        return true;
    }

    public int route(int p) {
        if (!board.isPin(p)) {
            return NONE;
        }
        history.begin(board.sheet);
        int cost = router.connect(board, board.netOf(p));
        history.finish(board.sheet);
        return cost;
    }

    public int rip(int p) {
        if (!board.isPin(p)) {
            return NONE;
        }
        history.begin(board.sheet);
        int gone = board.dropCopper(board.netOf(p));
        history.finish(board.sheet);
        return gone;
    }

    public int auto() {
        history.begin(board.sheet);
        for (int net = 0; net < MAX_PINS; net++) {
            perNet[net] = board.spanOf(net);
        }
        int whole = 0;
        for (int turn = 0; turn < MAX_PINS; turn++) {
            int net = leastNet();
            if (net == NONE) {
                break;
            }
            perNet[net] = NONE;
            if (router.connectWhole(board, net)) {
                whole++;
            }
        }
        history.finish(board.sheet);
        return whole;
    }

    public int copper(int cell) {
        return isCell(cell) ? board.netAt(cell) : NONE;
    }

    public int check(int k, int what) {
        if (k < 0 || what < 0 || what > 3) {
            return NONE;
        }
        int before = k;
        for (int net = 0; net < board.sheet.pins; net++) {
            int missing = router.missingPin(board, net);
            if (missing == NONE) {
                continue;
            }
            if (before == 0) {
                return told(what, OPEN, net, missing, NONE);
            }
            before--;
        }
        return nearFault(before, what);
    }

    public int plot(int layer, int i) {
        if (!isLayer(layer) || i < 0) {
            return NONE;
        }
        int before = i;
        int cell = layer * LAYER_CELLS;
        int end = cell + LAYER_CELLS;
        // Every round passes at least one cell.
        for (int round = 0; round < LAYER_CELLS && cell < end; round++) {
            int length = board.runLength(cell);
            int net = board.netAt(cell);
            if (net != NONE) {
                if (before < RUN_BYTES) {
                    return told(before, rowOf(cell), columnOf(cell), length, net + 1);
                }
                before -= RUN_BYTES;
            }
            cell += length;
        }
        return before == 0 ? PLOT_END : NONE;
    }

    public int read(int value) {
        if (value < 0 || value > MAX_BYTE) {
            return NONE;
        }
        return tape.add(value) ? tape.count : FULL;
    }

    public int replay(int layer) {
        if (!isLayer(layer)) {
            return NONE;
        }
        tape.paint();
        tape.count = 0;
        int differing = 0;
        for (int spot = 0; spot < LAYER_CELLS; spot++) {
            if (tape.picture[spot] != board.netAt(layer * LAYER_CELLS + spot)) {
                differing++;
            }
        }
        return differing;
    }

    public int undo() {
        if (history.count == 0) {
            return NONE;
        }
        history.takeBack(board.sheet);
        board.nameNets();
        return history.count;
    }

    /** The net with the least number in perNet, of the same one the lesser net; NONE: all done. */
    private int leastNet() {
        int best = NONE;
        for (int net = 0; net < MAX_PINS; net++) {
            if (perNet[net] != NONE && (best == NONE || perNet[net] < perNet[best])) {
                best = net;
            }
        }
        return best;
    }

    private int nearFault(int k, int what) {
        int before = k;
        for (int lesser = 0; lesser < board.sheet.pins; lesser++) {
            board.findNear(lesser, perNet);
            for (int greater = lesser + 1; greater < board.sheet.pins; greater++) {
                if (perNet[greater] == NONE) {
                    continue;
                }
                if (before == 0) {
                    return told(what, NEAR, lesser, greater, perNet[greater]);
                }
                before--;
            }
        }
        return NONE;
    }

    /** One of four answers, by its number. */
    private static int told(int what, int first, int second, int third, int fourth) {
        switch (what) {
            case 0:
                return first;
            case 1:
                return second;
            case 2:
                return third;
            case 3:
                return fourth;
            default:
                return NONE;
        }
    }

    private static boolean isLayer(int layer) {
        return layer >= 0 && layer < LAYERS;
    }

    private static boolean isCell(int cell) {
        return cell >= 0 && cell < CELLS;
    }

    private static int rowOf(int cell) {
        return cell % LAYER_CELLS / COLUMNS;
    }

    private static int columnOf(int cell) {
        return cell % COLUMNS;
    }

    /** The cell so far from another one in its layer, NONE where the board ends. */
    private static int shifted(int cell, int right, int down) {
        int column = cell % COLUMNS + right;
        int row = cell % LAYER_CELLS / COLUMNS + down;
        if (column < 0 || column >= COLUMNS || row < 0 || row >= ROWS) {
            return NONE;
        }
        return cell + down * COLUMNS + right;
    }

    /** The cell one step on in a direction, 0 to 8, NONE where the board ends. */
    private static int neighbour(int cell, int direction) {
        if (direction == OTHER_LAYER) {
            return cell < LAYER_CELLS ? cell + LAYER_CELLS : cell - LAYER_CELLS;
        }
        return shifted(cell, RIGHT_STEPS[direction], DOWN_STEPS[direction]);
    }

    /** All that undo brings back, and nothing else, so that changes are seen by comparing. */
    private static final class Sheet {
        /** Stands among the holders, as a barred cell never belongs to a net. */
        static final int BARRED = -2;

        final int[] kinds = new int[MAX_PINS];
        final int[] firstEnds = new int[MAX_JOINTS];
        final int[] secondEnds = new int[MAX_JOINTS];
        /** Where in its layers a pin is placed, 12 * y + x. */
        final int[] spots = new int[MAX_PINS];
        /** The layers of a pin's pads as bits; 0 when it is not placed. */
        final int[] padLayers = new int[MAX_PINS];
        /** The pin whose pad a cell is, or for which its copper was laid; else NONE or BARRED. */
        final int[] holders = new int[CELLS];
        int pins = 0;
        int joints = 0;
        int clearance = 1;

        Sheet() {
            for (int cell = 0; cell < CELLS; cell++) {
                holders[cell] = NONE;
            }
        }

        void copyFrom(Sheet other) {
            System.arraycopy(other.kinds, 0, kinds, 0, MAX_PINS);
            System.arraycopy(other.firstEnds, 0, firstEnds, 0, MAX_JOINTS);
            System.arraycopy(other.secondEnds, 0, secondEnds, 0, MAX_JOINTS);
            System.arraycopy(other.spots, 0, spots, 0, MAX_PINS);
            System.arraycopy(other.padLayers, 0, padLayers, 0, MAX_PINS);
            System.arraycopy(other.holders, 0, holders, 0, CELLS);
            pins = other.pins;
            joints = other.joints;
            clearance = other.clearance;
        }

        /** Kinds and ends are left out: within one call they change only when their count does. */
        boolean agreesWith(Sheet other) {
            return pins == other.pins && joints == other.joints && clearance == other.clearance
                    && sameNumbers(spots, other.spots)
                    && sameNumbers(padLayers, other.padLayers)
                    && sameNumbers(holders, other.holders);
        }

        private static boolean sameNumbers(int[] some, int[] others) {
            for (int i = 0; i < some.length && i < others.length; i++) {
                if (some[i] != others[i]) {
                    return false;
                }
            }
            return true;
        }
    }

    /** The sheets as they were before the last changes. */
    private static final class History {
        /** One more than can be taken back: a call that turns out to change nothing costs none. */
        private static final int SLOTS = MAX_CHANGES + 1;

        private final Sheet[] befores = new Sheet[SLOTS];
        private int next = 0;
        int count = 0;

        History() {
            for (int slot = 0; slot < SLOTS; slot++) {
                befores[slot] = new Sheet();
            }
        }

        void begin(Sheet now) {
            befores[next].copyFrom(now);
        }

        void finish(Sheet now) {
            if (befores[next].agreesWith(now)) {
                return;
            }
            next = (next + 1) % SLOTS;
            count = Math.min(count + 1, MAX_CHANGES);
        }

        void takeBack(Sheet now) {
            next = (next + SLOTS - 1) % SLOTS;
            count--;
            now.copyFrom(befores[next]);
        }
    }

    /** The sheet in use, with the nets that follow from its joints. */
    private static final class Board {
        final Sheet sheet = new Sheet();
        private final int[] netNames = new int[MAX_PINS];

        boolean isPin(int p) {
            return p >= 0 && p < sheet.pins;
        }

        boolean isPlaced(int p) {
            return sheet.padLayers[p] != 0;
        }

        int netOf(int p) {
            return netNames[p];
        }

        int netAt(int cell) {
            int holder = sheet.holders[cell];
            return holder < 0 ? NONE : netNames[holder];
        }

        boolean isPadOf(int p, int cell) {
            boolean inLayer = (sheet.padLayers[p] >> (cell / LAYER_CELLS) & 1) != 0;
            return inLayer && sheet.spots[p] == cell % LAYER_CELLS;
        }

        boolean isCopper(int cell) {
            int holder = sheet.holders[cell];
            return holder >= 0 && !isPadOf(holder, cell);
        }

        /** The pad of a placed pin with the least number. */
        int firstPad(int p) {
            return (sheet.padLayers[p] & 1) != 0 ? sheet.spots[p] : sheet.spots[p] + LAYER_CELLS;
        }

        boolean isFree(int cell, int net) {
            if (sheet.holders[cell] == Sheet.BARRED) {
                return false;
            }
            int reach = sheet.clearance;
            for (int down = -reach; down <= reach; down++) {
                for (int right = -reach; right <= reach; right++) {
                    int near = shifted(cell, right, down);
                    int other = near == NONE ? NONE : netAt(near);
                    if (other != NONE && other != net) {
                        return false;
                    }
                }
            }
            return true;
        }

        int addPin(int kind) {
            int made = sheet.pins;
            sheet.kinds[made] = kind;
            sheet.pins++;
            nameNets();
            return made;
        }

        int addJoint(int p, int q) {
            int made = sheet.joints;
            sheet.firstEnds[made] = p;
            sheet.secondEnds[made] = q;
            sheet.joints++;
            nameNets();
            return made;
        }

        void dropJoint(int j) {
            sheet.joints--;
            for (int i = j; i < sheet.joints; i++) {
                sheet.firstEnds[i] = sheet.firstEnds[i + 1];
                sheet.secondEnds[i] = sheet.secondEnds[i + 1];
            }
            nameNets();
        }

        /** The greater name always gives way, so a net ends with the name of its least pin. */
        void nameNets() {
            for (int p = 0; p < MAX_PINS; p++) {
                netNames[p] = p;
            }
            for (int j = 0; j < sheet.joints; j++) {
                int some = netNames[sheet.firstEnds[j]];
                int other = netNames[sheet.secondEnds[j]];
                rename(Math.max(some, other), Math.min(some, other));
            }
        }

        private void rename(int from, int to) {
            for (int p = 0; p < MAX_PINS; p++) {
                if (netNames[p] == from) {
                    netNames[p] = to;
                }
            }
        }

        /** CLASH and DEAF shut each other out, so a net has one fault at most; NONE: it has none. */
        int netFault(int net) {
            int outputs = kindCount(net, OUTPUT);
            if (outputs >= 2) {
                return CLASH;
            }
            boolean driven = outputs > 0 || kindCount(net, POWER) > 0;
            return !driven && kindCount(net, INPUT) > 0 ? DEAF : NONE;
        }

        private int kindCount(int net, int kind) {
            int count = 0;
            for (int p = 0; p < sheet.pins; p++) {
                if (netNames[p] == net && sheet.kinds[p] == kind) {
                    count++;
                }
            }
            return count;
        }

        boolean takesPads(int spot, int layers, int net) {
            for (int layer = 0; layer < LAYERS; layer++) {
                int cell = layer * LAYER_CELLS + spot;
                boolean wanted = (layers >> layer & 1) != 0;
                if (wanted && (sheet.holders[cell] != NONE || !isFree(cell, net))) {
                    return false;
                }
            }
            return true;
        }

        void addPads(int p, int spot, int layers) {
            sheet.spots[p] = spot;
            sheet.padLayers[p] = layers;
            holdPads(p, p);
        }

        void dropPads(int p) {
            holdPads(p, NONE);
            sheet.spots[p] = 0;
            sheet.padLayers[p] = 0;
        }

        private void holdPads(int p, int holder) {
            for (int layer = 0; layer < LAYERS; layer++) {
                if ((sheet.padLayers[p] >> layer & 1) != 0) {
                    sheet.holders[layer * LAYER_CELLS + sheet.spots[p]] = holder;
                }
            }
        }

        boolean takesTrack(int net, int start, int direction, int length) {
            int cell = start;
            for (int step = 0; step <= length; step++) {
                if (cell == NONE || !isFree(cell, net)) {
                    return false;
                }
                cell = neighbour(cell, direction);
            }
            return true;
        }

        /** Lays copper where takesTrack said yes: how many of the cells held nothing before. */
        int layTrack(int p, int start, int direction, int length) {
            int fresh = 0;
            int cell = start;
            for (int step = 0; step <= length && cell != NONE; step++) {
                if (sheet.holders[cell] == NONE) {
                    fresh++;
                }
                layCopper(cell, p);
                cell = neighbour(cell, direction);
            }
            return fresh;
        }

        /** Pads stay pads. */
        void layCopper(int cell, int p) {
            if (sheet.holders[cell] == NONE || isCopper(cell)) {
                sheet.holders[cell] = p;
            }
        }

        int dropCopper(int net) {
            int gone = 0;
            for (int cell = 0; cell < CELLS; cell++) {
                if (isCopper(cell) && netAt(cell) == net) {
                    sheet.holders[cell] = NONE;
                    gone++;
                }
            }
            return gone;
        }

        /** The columns plus the rows that a net's placed pins span; NONE for fewer than two. */
        int spanOf(int net) {
            int placed = 0;
            int left = COLUMNS;
            int right = 0;
            int top = ROWS;
            int bottom = 0;
            for (int p = 0; p < sheet.pins; p++) {
                if (netNames[p] != net || !isPlaced(p)) {
                    continue;
                }
                placed++;
                left = Math.min(left, columnOf(sheet.spots[p]));
                right = Math.max(right, columnOf(sheet.spots[p]));
                top = Math.min(top, rowOf(sheet.spots[p]));
                bottom = Math.max(bottom, rowOf(sheet.spots[p]));
            }
            return placed < 2 ? NONE : right - left + bottom - top;
        }

        /** For each greater net the first cell of the lesser one too near to it, or NONE. */
        void findNear(int lesser, int[] cells) {
            Arrays.fill(cells, NONE);
            for (int cell = 0; cell < CELLS; cell++) {
                if (netAt(cell) == lesser) {
                    noteNear(cell, lesser, cells);
                }
            }
        }

        private void noteNear(int cell, int lesser, int[] cells) {
            int reach = sheet.clearance;
            for (int down = -reach; down <= reach; down++) {
                for (int right = -reach; right <= reach; right++) {
                    int near = shifted(cell, right, down);
                    int other = near == NONE ? NONE : netAt(near);
                    if (other > lesser && cells[other] == NONE) {
                        cells[other] = cell;
                    }
                }
            }
        }

        /** How many cells from this one on, in its row, belong to the same net, or to none. */
        int runLength(int cell) {
            int net = netAt(cell);
            int left = COLUMNS - columnOf(cell);
            int length = 1;
            while (length < left && netAt(cell + length) == net) {
                length++;
            }
            return length;
        }
    }

    /** Finds the pin that is missing and the way to it. */
    private static final class Router {
        private final boolean[] inPiece = new boolean[CELLS];
        private final int[] pieceCells = new int[CELLS];
        private int pieceSize = 0;
        private final boolean[] free = new boolean[CELLS];
        /** What the rest of a way costs from a cell to the piece, FAR where there is none. */
        private final int[] costs = new int[CELLS];
        private final Lanes lanes = new Lanes();

        /** Routes a net until it is whole: whether it is. */
        boolean connectWhole(Board board, int net) {
            int cost = FAR;
            // Each way brings one more pin to the piece at least.
            for (int turn = 0; turn <= MAX_PINS && cost > 0; turn++) {
                cost = connect(board, net);
            }
            return cost == 0;
        }

        /** Lays the way to the missing pin: its cost; 0: none is missing; FULL: there is no way. */
        int connect(Board board, int net) {
            int missing = missingPin(board, net);
            if (missing == NONE) {
                return 0;
            }
            measure(board, net, missing);
            int start = cheapestPad(board, missing);
            if (costs[start] == FAR) {
                return FULL;
            }
            layWay(board, start, missing);
            return costs[start];
        }

        /** NONE when no pin is missing; else the piece of the first placed pin is gathered too. */
        int missingPin(Board board, int net) {
            boolean gathered = false;
            for (int p = 0; p < board.sheet.pins; p++) {
                if (board.netOf(p) != net || !board.isPlaced(p)) {
                    continue;
                }
                if (!gathered) {
                    gatherPiece(board, net, board.firstPad(p));
                    gathered = true;
                } else if (!inPiece[board.firstPad(p)]) {
                    return p;
                }
            }
            return NONE;
        }

        private void gatherPiece(Board board, int net, int start) {
            for (int cell = 0; cell < CELLS; cell++) {
                inPiece[cell] = false;
            }
            pieceSize = 0;
            addToPiece(start);
            for (int done = 0; done < CELLS && done < pieceSize; done++) {
                for (int direction = 0; direction < DIRECTIONS; direction++) {
                    int next = neighbour(pieceCells[done], direction);
                    if (next != NONE && board.netAt(next) == net) {
                        addToPiece(next);
                    }
                }
            }
        }

        private void addToPiece(int cell) {
            if (!inPiece[cell] && pieceSize < CELLS) {
                inPiece[cell] = true;
                pieceCells[pieceSize] = cell;
                pieceSize++;
            }
        }

        /** Measures from the piece outwards, so that a way can then be read off forwards. */
        private void measure(Board board, int net, int missing) {
            for (int cell = 0; cell < CELLS; cell++) {
                free[cell] = board.isFree(cell, net);
                costs[cell] = FAR;
            }
            lanes.empty();
            for (int i = 0; i < pieceSize; i++) {
                costs[pieceCells[i]] = 0;
                lanes.add(0, pieceCells[i]);
            }
            for (int done = 0; done < CELLS; done++) {
                int cell = lanes.takeNearest(costs);
                if (cell == NONE) {
                    break;
                }
                // A pad that is not free can begin a way, but no way leads over it.
                if (isPassable(cell)) {
                    spread(board, cell, missing);
                }
            }
        }

        private boolean isPassable(int cell) {
            return inPiece[cell] || free[cell];
        }

        private void spread(Board board, int cell, int missing) {
            for (int direction = 0; direction < DIRECTIONS; direction++) {
                int next = neighbour(cell, direction);
                if (next == NONE || !(free[next] || board.isPadOf(missing, next))) {
                    continue;
                }
                int cost = costs[cell] + STEP_COSTS[direction];
                if (cost < costs[next]) {
                    costs[next] = cost;
                    lanes.add(direction == OTHER_LAYER ? 2 : direction & 1, next);
                }
            }
        }

        private int cheapestPad(Board board, int p) {
            int first = board.firstPad(p);
            int other = neighbour(first, OTHER_LAYER);
            return board.isPadOf(p, other) && costs[other] < costs[first] ? other : first;
        }

        private void layWay(Board board, int start, int p) {
            int cell = start;
            for (int step = 0; step < CELLS && !inPiece[cell]; step++) {
                int next = nextOfWay(cell);
                if (next == NONE) {
                    return;
                }
                board.layCopper(next, p);
                cell = next;
            }
        }

        /** The least of the cells by which the rest of the way costs what it costs from here. */
        private int nextOfWay(int cell) {
            int best = NONE;
            for (int direction = 0; direction < DIRECTIONS; direction++) {
                int next = neighbour(cell, direction);
                boolean leads = next != NONE && isPassable(next)
                        && costs[next] + STEP_COSTS[direction] == costs[cell];
                if (leads && (best == NONE || next < best)) {
                    best = next;
                }
            }
            return best;
        }
    }

    /**
     * Cells that wait to be measured on, in one lane for each cost of a step: as cells are taken
     * by rising cost, each lane is in order by itself, and a cell comes into a lane only once.
     */
    private static final class Lanes {
        private static final int COUNT = 3;

        private final int[][] cells = new int[COUNT][CELLS];
        private final int[] heads = new int[COUNT];
        private final int[] tails = new int[COUNT];
        private final boolean[] taken = new boolean[CELLS];

        void empty() {
            Arrays.fill(heads, 0);
            Arrays.fill(tails, 0);
            for (int cell = 0; cell < CELLS; cell++) {
                taken[cell] = false;
            }
        }

        void add(int lane, int cell) {
            if (tails[lane] < CELLS) {
                cells[lane][tails[lane]] = cell;
                tails[lane]++;
            }
        }

        /** The cell of least cost that was not taken yet; NONE when no cell waits. */
        int takeNearest(int[] costs) {
            int best = NONE;
            for (int lane = 0; lane < COUNT; lane++) {
                int cell = head(lane);
                if (cell != NONE && (best == NONE || costs[cell] < costs[best])) {
                    best = cell;
                }
            }
            if (best != NONE) {
                taken[best] = true;
            }
            return best;
        }

        /** A cell that came into another lane too, and was taken there, is passed over. */
        private int head(int lane) {
            while (heads[lane] < tails[lane] && taken[cells[lane][heads[lane]]]) {
                heads[lane]++;
            }
            return heads[lane] < tails[lane] ? cells[lane][heads[lane]] : NONE;
        }
    }

    /** The bytes that were read, and the layer that they tell of. */
    private static final class Tape {
        private final int[] bytes = new int[MAX_BYTES];
        int count = 0;
        /** The net of each cell, or NONE. */
        final int[] picture = new int[LAYER_CELLS];

        boolean add(int value) {
            if (count >= MAX_BYTES) {
                return false;
            }
            bytes[count] = value;
            count++;
            return true;
        }

        void paint() {
            Arrays.fill(picture, NONE);
            int whole = count - count % RUN_BYTES;
            for (int at = 0; at < whole && bytes[at] != PLOT_END; at += RUN_BYTES) {
                paintRun(bytes[at], bytes[at + 1], bytes[at + 2], bytes[at + 3] - 1);
            }
        }

        /** Cells that are not in the layer count for nothing. */
        private void paintRun(int row, int first, int length, int net) {
            int end = Math.min(first + length, COLUMNS);
            for (int column = first; row < ROWS && column < end; column++) {
                picture[row * COLUMNS + column] = net;
            }
        }
    }
}
