import java.util.Random;

// LANGUAGE.md, rule 7: no call may throw or fail to end, for any arguments in any state. The document frees the
// answers after the 512th call, not the object from this rule, so the runs go far beyond it, and no answer is
// looked at. A call that failed to end would keep this test from ending.
public final class OnionCircuitsAnyState {
    private static final int RUNS = 100;
    private static final int CALLS = 20_000;
    private static final int KINDS = 11;
    private static final int COMPLAINTS_SHOWN = 20;

    private static int wrong = 0;

    // How often an argument is out of range differs from run to run: few, and the states get deep; many, and
    // every call meets them.
    private static int pick(Random random, int count, int oneIn) {
        int[] odd = {-1, count, -count, 255, 256, 65536, random.nextInt(), Integer.MIN_VALUE, Integer.MAX_VALUE};
        return random.nextInt(oneIn) == 0 ? odd[random.nextInt(odd.length)] : random.nextInt(count);
    }

    private static int call(OnionCircuits x, int kind, int c, int i, boolean side, int number) {
        return switch (kind) {
            case 0 -> x.extend(c, number);
            case 1 -> x.destroy(c);
            case 2 -> x.open(c, i);
            case 3 -> x.send(c, i, number);
            case 4 -> x.reply(c, i, number);
            case 5 -> x.move(c, i, side);
            case 6 -> x.tamper(c, i, side, number);
            case 7 -> x.got(c, i, side);
            case 8 -> x.byteGot(c, i, side, number);
            case 9 -> x.waiting(c, i, side);
            default -> x.hops(c);
        };
    }

    // Destroying and tampering are rare in most runs, so that windows fill and many bytes are got.
    private static int pickKind(Random random, int run) {
        int kind = random.nextInt(KINDS);
        boolean takesDown = kind == 1 || kind == 6;
        return takesDown && random.nextInt(200) >= run ? 5 : kind;
    }

    private static void run(int run) {
        Random random = new Random(run);
        OnionCircuits x = new OnionCircuits(random.nextInt());
        int oneIn = 2 + run % 40;
        for (int number = 1; number <= CALLS; number++) {
            int kind = pickKind(random, run);
            int c = pick(random, 2, oneIn);
            int i = pick(random, 3, oneIn);
            boolean side = random.nextBoolean();
            int last = pick(random, 8, oneIn);
            try {
                call(x, kind, c, i, side, last);
            } catch (RuntimeException | Error e) {
                complain(run, number, "kind " + kind + " with " + c + ", " + i + ", " + side + ", " + last, e);
            }
        }
    }

    private static void complain(int run, int number, String call, Throwable thrown) {
        wrong++;
        if (wrong <= COMPLAINTS_SHOWN) {
            System.out.println("rule 7: run " + run + ", call " + number + ", " + call + " threw " + thrown);
        }
    }

    public static void main(String[] args) {
        for (int run = 0; run < RUNS; run++) {
            run(run);
        }
        System.out.println(wrong == 0 ? "no call threw" : wrong + " calls threw");
        if (wrong != 0) {
            System.exit(1);
        }
    }
}
