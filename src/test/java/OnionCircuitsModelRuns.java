import java.util.ArrayDeque;
import java.util.ArrayList;
import java.util.Deque;
import java.util.List;
import java.util.Random;

// Long runs of random calls, the same ones every time, against a second model of the document.
public final class OnionCircuitsModelRuns {
    private static final int RUNS = 3000;
    private static final int CALLS = 512;
    // Leaves room for the 242 calls of the last look, so that none is beyond the 512th.
    private static final int CALLS_BEFORE_LOOK = 250;
    private static final int COMPLAINTS_SHOWN = 20;

    private static int wrong = 0;

    private static final class Cell {
        final Stream stream;
        final int value;
        int turned = 0;

        Cell(Stream stream, int value) {
            this.stream = stream;
            this.value = value;
        }
    }

    private static final class Stream {
        final int hop;
        final List<Integer> atFarEnd = new ArrayList<>();
        final List<Integer> atClient = new ArrayList<>();

        Stream(int hop) {
            this.hop = hop;
        }

        List<Integer> got(boolean far) {
            return far ? atFarEnd : atClient;
        }
    }

    private static final class Circuit {
        final List<Integer> relays = new ArrayList<>();
        final Stream[] streams = new Stream[3];
        final List<Deque<Cell>> forward = new ArrayList<>();
        final List<Deque<Cell>> backward = new ArrayList<>();

        Circuit() {
            for (int link = 0; link < 3; link++) {
                forward.add(new ArrayDeque<>());
                backward.add(new ArrayDeque<>());
            }
        }

        List<Deque<Cell>> links(boolean ahead) {
            return ahead ? forward : backward;
        }

        int underWay(Stream stream, boolean ahead) {
            int cells = 0;
            for (Deque<Cell> link : links(ahead)) {
                for (Cell cell : link) {
                    cells += cell.stream == stream ? 1 : 0;
                }
            }
            return cells;
        }
    }

    private static final class Model {
        final Circuit[] circuits = {new Circuit(), new Circuit()};

        static boolean within(int value, int count) {
            return 0 <= value && value < count;
        }

        int refusal(int c) {
            return !within(c, 2) ? -1 : circuits[c].relays.isEmpty() ? -5 : 0;
        }

        Stream stream(int c, int s) {
            return within(c, 2) && within(s, 3) ? circuits[c].streams[s] : null;
        }

        Deque<Cell> link(int c, int l, boolean ahead) {
            return within(c, 2) && within(l, 3) ? circuits[c].links(ahead).get(l) : new ArrayDeque<>();
        }

        int extend(int c, int relay) {
            if (!within(c, 2)) {
                return -1;
            }
            List<Integer> relays = circuits[c].relays;
            if (!within(relay, 5) || relays.contains(relay)) {
                return -2;
            }
            if (relays.size() == 3) {
                return -4;
            }
            relays.add(relay);
            return relays.size();
        }

        int destroy(int c) {
            if (refusal(c) != 0) {
                return refusal(c);
            }
            int cells = 0;
            for (int l = 0; l < 3; l++) {
                cells += link(c, l, true).size() + link(c, l, false).size();
            }
            circuits[c] = new Circuit();
            return cells;
        }

        int open(int c, int s) {
            if (refusal(c) != 0) {
                return refusal(c);
            }
            if (!within(s, 3)) {
                return -3;
            }
            if (stream(c, s) != null) {
                return -8;
            }
            int exit = circuits[c].relays.size() - 1;
            circuits[c].streams[s] = new Stream(exit);
            return exit;
        }

        int launch(int c, int s, int b, boolean ahead) {
            if (refusal(c) != 0) {
                return refusal(c);
            }
            Stream stream = stream(c, s);
            if (stream == null) {
                return -3;
            }
            if (circuits[c].underWay(stream, ahead) == 3) {
                return -6;
            }
            link(c, ahead ? 0 : stream.hop, ahead).addLast(new Cell(stream, b & 255));
            return circuits[c].underWay(stream, ahead);
        }

        int move(int c, int l, boolean ahead) {
            if (refusal(c) != 0) {
                return refusal(c);
            }
            Cell cell = link(c, l, ahead).pollFirst();
            if (cell == null) {
                return -7;
            }
            boolean out = ahead ? l == cell.stream.hop : l == 0;
            if (!out) {
                link(c, ahead ? l + 1 : l - 1, ahead).addLast(cell);
                return 0;
            }
            if (cell.turned != 0) {
                circuits[c] = new Circuit();
                return 2;
            }
            cell.stream.got(ahead).add(cell.value);
            return 1;
        }

        int tamper(int c, int l, boolean ahead, int bits) {
            if (refusal(c) != 0) {
                return refusal(c);
            }
            Cell cell = link(c, l, ahead).peekFirst();
            if (cell == null) {
                return -7;
            }
            cell.turned ^= bits & 255;
            return 0;
        }

        int got(int c, int s, boolean far) {
            Stream stream = stream(c, s);
            return stream == null ? 0 : stream.got(far).size();
        }

        int byteGot(int c, int s, boolean far, int back) {
            int count = got(c, s, far);
            boolean there = within(back, 8) && back < count;
            return there ? stream(c, s).got(far).get(count - 1 - back) : -7;
        }

        int waiting(int c, int l, boolean ahead) {
            return link(c, l, ahead).size();
        }

        int hops(int c) {
            return within(c, 2) ? circuits[c].relays.size() : -1;
        }
    }

    // Mostly a value that is allowed, now and then one beside or far from the range.
    private static int pick(Random random, int count) {
        int[] odd = {-1, count, count + 1, Integer.MIN_VALUE, Integer.MAX_VALUE, -count};
        return random.nextInt(40) == 0 ? odd[random.nextInt(odd.length)] : random.nextInt(count);
    }

    private static int pickBits(Random random) {
        int[] bits = {0, 1, 1, 2, 3, 256, 257, -1};
        return bits[random.nextInt(bits.length)];
    }

    private static void due(int run, int call, String what, int got, int want) {
        if (got != want) {
            wrong++;
            if (wrong <= COMPLAINTS_SHOWN) {
                System.out.println("run " + run + ", call " + call + ": " + what
                    + " answered " + got + ", due is " + want);
            }
        }
    }

    // The weights differ from run to run: some circuits live long enough to get many bytes, others come and go.
    private static int pickCall(Random random, int run) {
        int destroys = run % 4;
        int tampers = 3 * (run / 4 % 3);
        int roll = random.nextInt(100);
        if (roll < destroys) {
            return 1;
        }
        if (roll < destroys + tampers) {
            return 6;
        }
        int[] calls = {0, 2, 3, 3, 3, 4, 4, 4, 5, 5, 5, 5, 5, 5, 5, 7, 8, 9, 10};
        return calls[random.nextInt(calls.length)];
    }

    private static void call(OnionCircuits x, Model m, Random random, int run, int number) {
        int kind = pickCall(random, run);
        int c = pick(random, 2);
        int third = pick(random, 3);
        boolean side = random.nextBoolean();
        int b = random.nextInt();
        String args = "(" + c + ", " + third + ", " + side + ")";
        switch (kind) {
            case 0 -> {
                int relay = pick(random, 5);
                due(run, number, "extend(" + c + ", " + relay + ")", x.extend(c, relay), m.extend(c, relay));
            }
            case 1 -> due(run, number, "destroy(" + c + ")", x.destroy(c), m.destroy(c));
            case 2 -> due(run, number, "open" + args, x.open(c, third), m.open(c, third));
            case 3 -> due(run, number, "send" + args, x.send(c, third, b), m.launch(c, third, b, true));
            case 4 -> due(run, number, "reply" + args, x.reply(c, third, b), m.launch(c, third, b, false));
            case 5 -> due(run, number, "move" + args, x.move(c, third, side), m.move(c, third, side));
            case 6 -> {
                int bits = pickBits(random);
                int want = m.tamper(c, third, side, bits);
                due(run, number, "tamper" + args + " with " + bits, x.tamper(c, third, side, bits), want);
            }
            case 7 -> due(run, number, "got" + args, x.got(c, third, side), m.got(c, third, side));
            case 8 -> {
                int back = random.nextInt(12) - 1;
                int want = m.byteGot(c, third, side, back);
                due(run, number, "byteGot" + args + " back " + back, x.byteGot(c, third, side, back), want);
            }
            case 9 -> due(run, number, "waiting" + args, x.waiting(c, third, side), m.waiting(c, third, side));
            default -> due(run, number, "hops(" + c + ")", x.hops(c), m.hops(c));
        }
    }

    private static void compareAll(OnionCircuits x, Model m, int run) {
        for (int c = 0; c < 2; c++) {
            due(run, CALLS_BEFORE_LOOK, "hops at the end", x.hops(c), m.hops(c));
            for (int i = -1; i <= 3; i++) {
                for (int side = 0; side < 2; side++) {
                    boolean ahead = side == 0;
                    due(run, CALLS_BEFORE_LOOK, "waiting at the end", x.waiting(c, i, ahead), m.waiting(c, i, ahead));
                    due(run, CALLS_BEFORE_LOOK, "got at the end", x.got(c, i, ahead), m.got(c, i, ahead));
                    for (int back = -1; back <= 8; back++) {
                        int want = m.byteGot(c, i, ahead, back);
                        due(run, CALLS_BEFORE_LOOK, "byteGot at the end", x.byteGot(c, i, ahead, back), want);
                    }
                }
            }
        }
    }

    public static void main(String[] args) {
        for (int run = 0; run < RUNS; run++) {
            Random random = new Random(run);
            OnionCircuits x = new OnionCircuits(random.nextInt());
            Model m = new Model();
            boolean look = run % 5 == 0;
            int calls = look ? CALLS_BEFORE_LOOK : CALLS;
            for (int number = 1; number <= calls; number++) {
                call(x, m, random, run, number);
            }
            if (look) {
                compareAll(x, m, run);
            }
        }
        System.out.println(wrong == 0 ? "all answers are as due" : wrong + " answers are not as due");
        if (wrong != 0) {
            System.exit(1);
        }
    }
}
