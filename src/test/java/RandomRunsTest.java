import java.util.Random;

/** Long runs of calls on BoardDesk and PlainDesk side by side; the seeds are fixed. */
public final class RandomRunsTest {
    private static final int RUNS = 40;
    private static final int CALLS = 512;
    private static final int NONE_TOLD = -1;
    private static final int[] ODD = {-1, 0, 1, 2, 3, 4, 8, 9, 10, 11, 12, 15, 16, 23, 24, 119, 120,
        239, 240, 255, 256, 400, Integer.MIN_VALUE, Integer.MAX_VALUE};

    private static final Due due = new Due();

    private final Random random;
    private final BoardDesk desk = new BoardDesk();
    private final PlainDesk plain = new PlainDesk();
    private final StringBuilder story = new StringBuilder();
    private final int pins;
    /** How many of a hundred arguments are drawn without regard to what makes sense. */
    private final int oddity;
    /** One of so many calls is a change to joints or the clearance. */
    private final int calm;

    private RandomRunsTest(long seed) {
        random = new Random(seed);
        pins = 2 + random.nextInt(15);
        oddity = random.nextInt(3) * 2;
        calm = 2 + random.nextInt(12);
    }

    public static void main(String[] args) {
        int runs = args.length > 0 ? Integer.parseInt(args[0]) : RUNS;
        int first = args.length > 1 ? Integer.parseInt(args[1]) : 0;
        for (int run = first; run < first + runs && due.wrongAnswers() == 0; run++) {
            RandomRunsTest test = new RandomRunsTest(run);
            test.run();
            if (due.wrongAnswers() != 0) {
                System.out.println("run " + run + ": " + test.story);
            }
        }
        due.finish();
    }

    private void run() {
        if (random.nextInt(3) > 0) {
            open();
        }
        for (int call = 0; call < CALLS && due.wrongAnswers() == 0; call++) {
            if (pinsMade() < pins && random.nextInt(3) > 0) {
                makePin();
            } else {
                anyCall();
            }
            if (call % 16 == 15) {
                compareAll();
            }
        }
        compareAll();
    }

    /** A board on which there is something to route, which blind calls seldom come to. */
    private void open() {
        for (int p = 0; p < pins; p++) {
            makePin();
        }
        for (int p = 1; p < pins; p++) {
            if (random.nextInt(3) > 0) {
                joinPins(p, random.nextInt(3) > 0 ? p - 1 : random.nextInt(pins));
            }
        }
        for (int p = 0; p < pins; p++) {
            for (int times = 0; times < 3; times++) {
                placePin(p);
            }
        }
        same("auto()", desk.auto(), plain.auto());
        compareAll();
    }

    private int pinsMade() {
        int count = 0;
        while (plain.net(count) != NONE_TOLD) {
            count++;
        }
        return count;
    }

    private void same(String call, int got, int want) {
        story.append(call).append(" = ").append(want).append("; ");
        due.same(call, got, want);
    }

    private void same(String call, boolean got, boolean want) {
        same(call, got ? 1 : 0, want ? 1 : 0);
    }

    private int below(int bound) {
        boolean odd = random.nextInt(100) < oddity;
        return odd ? ODD[random.nextInt(ODD.length)] : random.nextInt(bound);
    }

    private int aPin() {
        return below(Math.max(pinsMade(), 1));
    }

    private void makePin() {
        int kind = below(4);
        same("pin(" + kind + ")", desk.pin(kind), plain.pin(kind));
    }

    private void anyCall() {
        int choice = random.nextInt(100);
        if (choice < 20) {
            shape();
        } else if (choice < 40) {
            putPin();
        } else if (choice < 58) {
            layTrack();
        } else if (choice < 76) {
            layWays();
        } else if (choice < 86) {
            takeAway();
        } else if (choice < 92) {
            look();
        } else {
            readBytes();
        }
    }

    private void shape() {
        int choice = random.nextInt(calm);
        if (choice == 0) {
            int clearance = 1 + below(2);
            same("rule(" + clearance + ")", desk.rule(clearance), plain.rule(clearance));
        } else if (choice == 1) {
            int j = below(8);
            same("part(" + j + ")", desk.part(j), plain.part(j));
        } else if (choice == 2 || random.nextInt(4) == 0) {
            joinPins(aPin(), aPin());
        } else {
            int cell = below(240);
            boolean is = random.nextInt(3) > 0;
            same("bar(" + cell + ", " + is + ")", desk.bar(cell, is), plain.bar(cell, is));
        }
    }

    private void joinPins(int p, int q) {
        same("join(" + p + ", " + q + ")", desk.join(p, q), plain.join(p, q));
    }

    private void putPin() {
        int p = aPin();
        if (random.nextInt(4) == 0) {
            same("lift(" + p + ")", desk.lift(p), plain.lift(p));
        } else {
            placePin(p);
        }
    }

    private void placePin(int p) {
        int x = below(12);
        int y = below(10);
        int layers = 1 + below(3);
        same("place(" + p + ", " + x + ", " + y + ", " + layers + ")",
                desk.place(p, x, y, layers), plain.place(p, x, y, layers));
    }

    private void layTrack() {
        int p = aPin();
        int cell = below(240);
        int direction = below(9);
        int length = below(direction == 8 ? 2 : 6);
        same("track(" + p + ", " + cell + ", " + direction + ", " + length + ")",
                desk.track(p, cell, direction, length), plain.track(p, cell, direction, length));
    }

    private void layWays() {
        if (random.nextInt(6) == 0) {
            same("auto()", desk.auto(), plain.auto());
        } else {
            int p = aPin();
            same("route(" + p + ")", desk.route(p), plain.route(p));
        }
    }

    private void takeAway() {
        int choice = random.nextInt(10);
        if (choice < 3) {
            int p = aPin();
            same("rip(" + p + ")", desk.rip(p), plain.rip(p));
        } else if (choice < 6) {
            int cell = below(240);
            same("erase(" + cell + ")", desk.erase(cell), plain.erase(cell));
        } else {
            boolean far = random.nextInt(40) == 0;
            for (int times = random.nextInt(far ? 18 : 2); times >= 0; times--) {
                same("undo()", desk.undo(), plain.undo());
            }
        }
    }

    private void look() {
        int k = below(5);
        int what = below(4);
        same("check(" + k + ", " + what + ")", desk.check(k, what), plain.check(k, what));
        same("fault(" + k + ", " + what + ")", desk.fault(k, what), plain.fault(k, what));
        int layer = below(2);
        int i = below(40);
        same("plot(" + layer + ", " + i + ")", desk.plot(layer, i), plain.plot(layer, i));
        int cell = below(240);
        same("copper(" + cell + ")", desk.copper(cell), plain.copper(cell));
        int p = aPin();
        same("net(" + p + ")", desk.net(p), plain.net(p));
    }

    private void readBytes() {
        int layer = below(2);
        if (random.nextInt(6) == 0) {
            same("replay(" + layer + ")", desk.replay(layer), plain.replay(layer));
            return;
        }
        int from = random.nextInt(3) * 4;
        for (int i = from; i < from + 3 + random.nextInt(3); i++) {
            int told = plain.plot(layer, i);
            int value = told == NONE_TOLD || random.nextInt(8) == 0 ? below(20) : told;
            same("read(" + value + ")", desk.read(value), plain.read(value));
        }
    }

    /** All that can be seen without a change; as it only looks, it is not counted as calls. */
    private void compareAll() {
        for (int p = 0; p < 16; p++) {
            due.same("net(" + p + ")", desk.net(p), plain.net(p));
        }
        for (int cell = 0; cell < 240; cell++) {
            due.same("copper(" + cell + ")", desk.copper(cell), plain.copper(cell));
        }
        for (int k = 0; compareFault(k); k++) {
            continue;
        }
        for (int k = 0; compareBoardFault(k); k++) {
            continue;
        }
        for (int layer = 0; layer < 2; layer++) {
            int i = 0;
            do {
                String call = "plot(" + layer + ", " + i + ")";
                due.same(call, desk.plot(layer, i), plain.plot(layer, i));
                i++;
            } while (plain.plot(layer, i - 1) != NONE_TOLD);
        }
    }

    private boolean compareFault(int k) {
        for (int what = 0; what < 2; what++) {
            due.same("fault(" + k + ", " + what + ")", desk.fault(k, what), plain.fault(k, what));
        }
        return plain.fault(k, 0) != NONE_TOLD;
    }

    private boolean compareBoardFault(int k) {
        for (int what = 0; what < 4; what++) {
            due.same("check(" + k + ", " + what + ")", desk.check(k, what), plain.check(k, what));
        }
        return plain.check(k, 0) != NONE_TOLD;
    }
}
