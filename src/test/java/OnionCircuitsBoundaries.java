// Every sentence of DOC.md that names a boundary case, with a test of its own. What refused calls and
// reading calls leave behind is looked at in OnionCircuitsRefusals.
public final class OnionCircuitsBoundaries {
    private static final int BAD_CIRCUIT = -1;
    private static final int BAD_RELAY = -2;
    private static final int BAD_STREAM = -3;
    private static final int FULL = -4;
    private static final int NO_CIRCUIT = -5;
    private static final int WINDOW = -6;
    private static final int NOTHING = -7;
    private static final int OPEN = -8;

    private static final boolean FORWARD = true;
    private static final boolean BACKWARD = false;
    private static final boolean FAR_END = true;
    private static final boolean CLIENT = false;
    private static final boolean[] BOTH = {true, false};

    private static final int MIN = Integer.MIN_VALUE;
    private static final int MAX = Integer.MAX_VALUE;
    // Beside the range, a whole range beside it, as far as can be, and what a cut to 8 or 16 bits would let in.
    private static final int[] NOT_A_CIRCUIT = {-1, 2, -2, 3, 4, 256, 65536, MIN, MAX, MIN + 1};
    private static final int[] NOT_A_RELAY = {-1, 5, -5, 6, 9, 10, 256, 65536, MIN, MAX, MIN + 1};
    private static final int[] NOT_A_THIRD = {-1, 3, -3, 4, 5, 6, 256, 65536, MIN, MAX, MIN + 1};

    // The circuit that a test is about; the other one is 1 - here.
    private static int here = 0;
    private static String sentence = "";
    private static int sentences = 0;
    private static int wrong = 0;

    private static void check(String promise, String words, Runnable test) {
        sentence = promise + " \"" + words + "\"";
        sentences++;
        for (here = 0; here < 2; here++) {
            runToItsEnd(test);
        }
    }

    // A call that throws is a fault of this sentence, and must not keep the next ones from being tested.
    private static void runToItsEnd(Runnable test) {
        try {
            test.run();
        } catch (RuntimeException e) {
            wrong++;
            System.out.println(sentence + " on circuit " + here + ": a call threw " + e);
        }
    }

    private static void due(String call, int answer, int want) {
        if (answer != want) {
            wrong++;
            System.out.println(sentence + " on circuit " + here + ": " + call + " answered " + answer
                + ", due is " + want);
        }
    }

    private static OnionCircuits fresh() {
        return new OnionCircuits(3);
    }

    private static void build(OnionCircuits x, int circuit, int hops) {
        for (int relay = 0; relay < hops; relay++) {
            x.extend(circuit, relay);
        }
    }

    private static OnionCircuits withHops(int hops) {
        OnionCircuits x = fresh();
        build(x, here, hops);
        return x;
    }

    private static OnionCircuits withStream(int hops) {
        OnionCircuits x = withHops(hops);
        x.open(here, 0);
        return x;
    }

    // Stream i is joined at hop i.
    private static OnionCircuits withStreamAtEveryHop() {
        OnionCircuits x = fresh();
        for (int i = 0; i < 3; i++) {
            x.extend(here, i);
            x.open(here, i);
        }
        return x;
    }

    private static int launch(OnionCircuits x, int stream, int b, boolean forward) {
        return forward ? x.send(here, stream, b) : x.reply(here, stream, b);
    }

    // Over a circuit of one hop, a cell arrives with its first move, whichever way it goes.
    private static int pass(OnionCircuits x, int stream, int b, boolean forward) {
        launch(x, stream, b, forward);
        return x.move(here, 0, forward);
    }

    private static void fillWindows(OnionCircuits x, int circuit, int stream) {
        for (int i = 0; i < 3; i++) {
            x.send(circuit, stream, 10 + i);
            x.reply(circuit, stream, 20 + i);
        }
    }

    private static void dueTakenDown(OnionCircuits x, int circuit) {
        due("hops", x.hops(circuit), 0);
        for (int i = 0; i < 3; i++) {
            for (boolean side : BOTH) {
                due("waiting on link " + i, x.waiting(circuit, i, side), 0);
                due("got of stream " + i, x.got(circuit, i, side), 0);
                due("byteGot of stream " + i, x.byteGot(circuit, i, side, 0), NOTHING);
            }
        }
        due("destroy", x.destroy(circuit), NO_CIRCUIT);
    }

    // ---- What it is, and Terms

    private static void the512thCall() {
        for (boolean forward : BOTH) {
            OnionCircuits x = withStream(1);
            for (int i = 0; i < 254; i++) {
                due("move of byte " + i, pass(x, 0, i, forward), 1);
            }
            due("got, the 511th call", x.got(here, 0, forward), 254);
            due("byteGot, the 512th call", x.byteGot(here, 0, forward, 7), 246);
        }
        OnionCircuits y = fresh();
        for (int i = 0; i < 256; i++) {
            due("extend, round " + i, y.extend(here, 0), 1);
            due("destroy, round " + i, y.destroy(here), 0);
        }
    }

    private static void fiveRelays() {
        for (int relay = 0; relay < 5; relay++) {
            due("extend to relay " + relay, fresh().extend(here, relay), 1);
        }
        due("extend to the relay below", fresh().extend(here, -1), BAD_RELAY);
        due("extend to the relay above", fresh().extend(here, 5), BAD_RELAY);
    }

    private static void twoCircuits() {
        int other = 1 - here;
        OnionCircuits x = fresh();
        due("extend", x.extend(here, 0), 1);
        due("hops of the other one", x.hops(other), 0);
        due("open", x.open(here, 0), 0);
        due("open on the other one", x.open(other, 0), NO_CIRCUIT);
        x.extend(other, 0);
        due("send on the other one", x.send(other, 0, 1), BAD_STREAM);
        due("open on the other one, now built", x.open(other, 0), 0);
        fillWindows(x, here, 0);
        due("send on the other one, its window being its own", x.send(other, 0, 1), 1);
        due("reply on the other one, its window being its own", x.reply(other, 0, 1), 1);
        due("waiting on the other one", x.waiting(other, 0, FORWARD), 1);
        x.move(here, 0, FORWARD);
        due("got on the other one", x.got(other, 0, FAR_END), 0);
        due("destroy", x.destroy(here), 5);
        due("destroy of the other one", x.destroy(other), 2);
    }

    private static void oneHopIsEnough() {
        OnionCircuits x = withHops(1);
        due("open", x.open(here, 2), 0);
        due("send", x.send(here, 2, 1), 1);
        due("reply", x.reply(here, 2, 1), 1);
        due("move forward", x.move(here, 0, FORWARD), 1);
        due("move backward", x.move(here, 0, BACKWARD), 1);
    }

    private static void atMostThreeHops() {
        for (int left = 0; left < 5; left++) {
            OnionCircuits x = fresh();
            for (int i = 0; i < 3; i++) {
                due("extend", x.extend(here, (left + i) % 5), i + 1);
            }
            due("a fourth hop", x.extend(here, (left + 3) % 5), FULL);
            due("hops", x.hops(here), 3);
        }
    }

    private static void allDifferent() {
        for (int relay = 0; relay < 5; relay++) {
            OnionCircuits x = fresh();
            x.extend(here, relay);
            due("relay " + relay + " right after itself", x.extend(here, relay), BAD_RELAY);
            x.extend(here, (relay + 1) % 5);
            due("relay " + relay + " as the third hop", x.extend(here, relay), BAD_RELAY);
            due("hops", x.hops(here), 2);
        }
    }

    private static void threeStreamsAtOnce() {
        OnionCircuits x = withHops(1);
        for (int stream = 0; stream < 3; stream++) {
            due("open of stream " + stream, x.open(here, stream), 0);
        }
        for (int stream = 0; stream < 3; stream++) {
            due("send on stream " + stream, x.send(here, stream, stream), 1);
            due("reply on stream " + stream, x.reply(here, stream, stream), 1);
        }
        due("a fourth stream", x.open(here, 3), BAD_STREAM);
    }

    private static void joinedWhereTheExitWas() {
        OnionCircuits x = withStream(1);
        x.send(here, 0, 7);
        x.extend(here, 1);
        x.extend(here, 2);
        due("move of a cell sent before extend", x.move(here, 0, FORWARD), 1);
        x.send(here, 0, 8);
        due("move of a cell sent after extend", x.move(here, 0, FORWARD), 1);
        x.reply(here, 0, 9);
        due("waiting on link 0", x.waiting(here, 0, BACKWARD), 1);
        due("waiting on link 2", x.waiting(here, 2, BACKWARD), 0);
        due("open of another stream", x.open(here, 1), 2);
        x.send(here, 1, 10);
        due("the other stream's move off link 0", x.move(here, 0, FORWARD), 0);
        due("the other stream's move off link 1", x.move(here, 1, FORWARD), 0);
        due("the other stream's move off link 2", x.move(here, 2, FORWARD), 1);
    }

    private static void everyByteArrives() {
        for (boolean forward : BOTH) {
            for (int first = 0; first < 256; first += 128) {
                OnionCircuits x = withStream(1);
                for (int b = first; b < first + 128; b++) {
                    due("move of byte " + b, pass(x, 0, b, forward), 1);
                    due("byteGot", x.byteGot(here, 0, forward, 0), b);
                }
            }
        }
    }

    private static void tamperingIsKnownAtTheEndAlone() {
        for (boolean forward : BOTH) {
            OnionCircuits x = withStream(3);
            launch(x, 0, 1, forward);
            int link = forward ? 0 : 2;
            int step = forward ? 1 : -1;
            x.tamper(here, link, forward, 1);
            due("move off the first link", x.move(here, link, forward), 0);
            due("waiting on the second link", x.waiting(here, 1, forward), 1);
            due("move off the second link", x.move(here, 1, forward), 0);
            due("waiting on the last link", x.waiting(here, link + 2 * step, forward), 1);
            due("hops", x.hops(here), 3);
            due("got", x.got(here, 0, forward), 0);
            due("move off the last link", x.move(here, link + 2 * step, forward), 2);
        }
    }

    private static void sentAtTheFirstLink() {
        for (int stream = 0; stream < 3; stream++) {
            OnionCircuits x = withStreamAtEveryHop();
            x.send(here, stream, 1);
            for (int link = 0; link < 3; link++) {
                due("waiting forward on link " + link, x.waiting(here, link, FORWARD), link == 0 ? 1 : 0);
                due("waiting backward on link " + link, x.waiting(here, link, BACKWARD), 0);
            }
        }
    }

    private static void repliedAtTheLinkToTheRelay() {
        for (int stream = 0; stream < 3; stream++) {
            OnionCircuits x = withStreamAtEveryHop();
            x.reply(here, stream, 1);
            for (int link = 0; link < 3; link++) {
                due("waiting backward on link " + link, x.waiting(here, link, BACKWARD), link == stream ? 1 : 0);
                due("waiting forward on link " + link, x.waiting(here, link, FORWARD), 0);
            }
        }
    }

    private static void repliedFromHop0() {
        OnionCircuits x = withStream(1);
        x.reply(here, 0, 33);
        due("waiting on link 0", x.waiting(here, 0, BACKWARD), 1);
        due("move off link 0", x.move(here, 0, BACKWARD), 1);
        due("byteGot at the client", x.byteGot(here, 0, CLIENT, 0), 33);
    }

    private static void oneCellOfOneLinkInOneDirection() {
        OnionCircuits x = withStream(2);
        fillWindows(x, here, 0);
        x.move(here, 0, FORWARD);
        x.move(here, 1, BACKWARD);
        for (int link = 0; link < 2; link++) {
            for (boolean forward : BOTH) {
                boolean first = forward == (link == 0);
                due("waiting on link " + link, x.waiting(here, link, forward), first ? 2 : 1);
            }
        }
        due("got at the far end", x.got(here, 0, FAR_END), 0);
        due("got at the client", x.got(here, 0, CLIENT), 0);
    }

    private static void forwardCellsArriveAtTheirRelay() {
        for (int stream = 0; stream < 3; stream++) {
            OnionCircuits x = withStreamAtEveryHop();
            x.send(here, stream, 70 + stream);
            for (int link = 0; link < stream; link++) {
                due("move off link " + link, x.move(here, link, FORWARD), 0);
                due("got at the far end, under way", x.got(here, stream, FAR_END), 0);
            }
            due("move off link " + stream, x.move(here, stream, FORWARD), 1);
            for (int other = 0; other < 3; other++) {
                due("got of stream " + other, x.got(here, other, FAR_END), other == stream ? 1 : 0);
                due("got at the client", x.got(here, other, CLIENT), 0);
            }
            due("byteGot", x.byteGot(here, stream, FAR_END, 0), 70 + stream);
            due("destroy, no cell being left", x.destroy(here), 0);
        }
    }

    private static void backwardCellsArriveAtTheClient() {
        for (int stream = 0; stream < 3; stream++) {
            OnionCircuits x = withStreamAtEveryHop();
            x.reply(here, stream, 80 + stream);
            for (int link = stream; link > 0; link--) {
                due("move off link " + link, x.move(here, link, BACKWARD), 0);
                due("got at the client, under way", x.got(here, stream, CLIENT), 0);
            }
            due("move off link 0", x.move(here, 0, BACKWARD), 1);
            for (int other = 0; other < 3; other++) {
                due("got of stream " + other, x.got(here, other, CLIENT), other == stream ? 1 : 0);
                due("got at the far end", x.got(here, other, FAR_END), 0);
            }
            due("byteGot", x.byteGot(here, stream, CLIENT, 0), 80 + stream);
            due("destroy, no cell being left", x.destroy(here), 0);
        }
    }

    private static void appendedToWhatWasGot() {
        for (boolean forward : BOTH) {
            OnionCircuits x = withStream(1);
            for (int i = 0; i < 3; i++) {
                launch(x, 0, 90 + i, forward);
            }
            for (int i = 0; i < 3; i++) {
                x.move(here, 0, forward);
                due("got", x.got(here, 0, forward), i + 1);
                for (int back = 0; back <= i; back++) {
                    due("byteGot back " + back, x.byteGot(here, 0, forward, back), 90 + i - back);
                }
            }
        }
    }

    private static void threeUnderWayInEachDirection() {
        for (boolean forward : BOTH) {
            OnionCircuits x = withStreamAtEveryHop();
            for (int stream = 0; stream < 3; stream++) {
                for (int i = 1; i <= 3; i++) {
                    due("cell " + i + " of stream " + stream, launch(x, stream, i, forward), i);
                }
                due("cell 4 of stream " + stream, launch(x, stream, 4, forward), WINDOW);
            }
            for (int stream = 0; stream < 3; stream++) {
                due("the other direction of stream " + stream, launch(x, stream, 5, !forward), 1);
            }
        }
    }

    private static void cellsOnAnyLinkAreUnderWay() {
        for (boolean forward : BOTH) {
            OnionCircuits x = withStream(3);
            int first = forward ? 0 : 2;
            int last = 2 - first;
            for (int i = 0; i < 3; i++) {
                launch(x, 0, i, forward);
            }
            x.move(here, first, forward);
            x.move(here, first, forward);
            x.move(here, 1, forward);
            for (int link = 0; link < 3; link++) {
                due("waiting on link " + link, x.waiting(here, link, forward), 1);
            }
            due("a fourth cell", launch(x, 0, 3, forward), WINDOW);
            due("the oldest arrives", x.move(here, last, forward), 1);
            due("a cell in its place", launch(x, 0, 4, forward), 3);
            due("one more", launch(x, 0, 5, forward), WINDOW);
        }
    }

    private static void badCircuitFirst() {
        OnionCircuits[] scenes = {fresh(), withHops(1), withHops(3)};
        int[] others = {0, -1, 9};
        for (OnionCircuits x : scenes) {
            for (int c : NOT_A_CIRCUIT) {
                due("destroy of " + c, x.destroy(c), BAD_CIRCUIT);
                for (int other : others) {
                    due("extend of " + c, x.extend(c, other), BAD_CIRCUIT);
                    due("open on " + c, x.open(c, other), BAD_CIRCUIT);
                    due("send on " + c, x.send(c, other, 1), BAD_CIRCUIT);
                    due("reply on " + c, x.reply(c, other, 1), BAD_CIRCUIT);
                    due("move forward on " + c, x.move(c, other, FORWARD), BAD_CIRCUIT);
                    due("move backward on " + c, x.move(c, other, BACKWARD), BAD_CIRCUIT);
                    due("tamper on " + c, x.tamper(c, other, FORWARD, 1), BAD_CIRCUIT);
                    due("tamper with no bits on " + c, x.tamper(c, other, BACKWARD, 0), BAD_CIRCUIT);
                }
            }
        }
    }

    private static void dueUnbuilt(OnionCircuits x, int c) {
        int[] others = {0, 1, 2, -1, 3, MIN, MAX};
        due("destroy", x.destroy(c), NO_CIRCUIT);
        for (int other : others) {
            due("open of stream " + other, x.open(c, other), NO_CIRCUIT);
            due("send on stream " + other, x.send(c, other, 1), NO_CIRCUIT);
            due("reply on stream " + other, x.reply(c, other, 1), NO_CIRCUIT);
            due("move forward on link " + other, x.move(c, other, FORWARD), NO_CIRCUIT);
            due("move backward on link " + other, x.move(c, other, BACKWARD), NO_CIRCUIT);
            due("tamper on link " + other, x.tamper(c, other, FORWARD, 1), NO_CIRCUIT);
            due("tamper with no bits on link " + other, x.tamper(c, other, BACKWARD, 0), NO_CIRCUIT);
        }
    }

    private static void thenNoCircuit() {
        dueUnbuilt(fresh(), here);

        OnionCircuits besideABuiltOne = fresh();
        besideABuiltOne.extend(1 - here, 0);
        besideABuiltOne.open(1 - here, 0);
        besideABuiltOne.send(1 - here, 0, 1);
        dueUnbuilt(besideABuiltOne, here);

        OnionCircuits destroyed = fresh();
        destroyed.extend(here, 0);
        destroyed.open(here, 0);
        destroyed.send(here, 0, 1);
        destroyed.destroy(here);
        dueUnbuilt(destroyed, here);

        OnionCircuits takenDown = fresh();
        takenDown.extend(here, 0);
        takenDown.open(here, 0);
        takenDown.send(here, 0, 1);
        takenDown.tamper(here, 0, FORWARD, 1);
        takenDown.move(here, 0, FORWARD);
        dueUnbuilt(takenDown, here);
    }

    private static void extendNeedsNoCircuit() {
        due("extend of an unbuilt circuit", fresh().extend(here, 0), 1);
        due("a wrong relay on an unbuilt circuit", fresh().extend(here, 5), BAD_RELAY);
    }

    // ---- Promise 1

    // A run that meets every kind of answer, folded into one number.
    private static long answersWithSeed(int seed) {
        OnionCircuits x = new OnionCircuits(seed);
        long fold = 17;
        for (int i = 0; i < 500; i++) {
            int c = i / 5 % 2;
            int third = i * 7 / 3 % 3;
            boolean side = i / 3 % 2 == 0;
            int answer = switch (i * 11 % 13) {
                case 0 -> x.extend(c, i % 6);
                case 1 -> x.open(c, third);
                case 2, 3 -> x.send(c, third, i * 31);
                case 4, 5 -> x.reply(c, third, i * 37);
                case 6, 7, 8 -> x.move(c, third, side);
                case 9 -> x.got(c, third, side);
                case 10 -> x.byteGot(c, third, side, i % 3);
                case 11 -> x.waiting(c, third, side);
                default -> i % 9 == 0 ? x.tamper(c, third, side, i) : i % 31 == 0 ? x.destroy(c) : x.hops(c);
            };
            fold = fold * 1000003 + answer;
        }
        return fold;
    }

    private static void seedChangesNothing() {
        long want = answersWithSeed(0);
        int[] seeds = {1, -1, 2, 3, 5, 255, 256, 65536, MIN, MAX, 123456789};
        for (int seed : seeds) {
            due("a run with seed " + seed + " like the one with seed 0", answersWithSeed(seed) == want ? 1 : 0, 1);
        }
    }

    private static void noCircuitIsBuilt() {
        int[] seeds = {0, 1, -1, MIN, MAX};
        for (int seed : seeds) {
            OnionCircuits x = new OnionCircuits(seed);
            due("hops", x.hops(here), 0);
            due("open", x.open(here, 0), NO_CIRCUIT);
            dueTakenDown(x, here);
            for (int relay = 0; relay < 5; relay++) {
                due("extend to " + relay, x.extend(here, relay), relay < 3 ? relay + 1 : FULL);
            }
        }
    }

    // ---- Promise 2

    private static void extendBadCircuit() {
        for (int c : NOT_A_CIRCUIT) {
            for (int relay = -1; relay <= 5; relay++) {
                due("extend(" + c + ", " + relay + ")", fresh().extend(c, relay), BAD_CIRCUIT);
            }
        }
    }

    private static void relayOutOfRange() {
        for (int hops = 0; hops <= 3; hops++) {
            OnionCircuits x = withHops(hops);
            for (int relay : NOT_A_RELAY) {
                due("extend to relay " + relay + " after " + hops, x.extend(here, relay), BAD_RELAY);
            }
        }
    }

    private static void relayIsAHopAlready() {
        for (int hops = 1; hops <= 3; hops++) {
            OnionCircuits x = withHops(hops);
            for (int relay = 0; relay < hops; relay++) {
                due("hop " + relay + " of " + hops + " again", x.extend(here, relay), BAD_RELAY);
            }
        }
    }

    private static void anotherCircuitsHopIsFree() {
        OnionCircuits x = withHops(3);
        for (int relay = 0; relay < 3; relay++) {
            due("relay " + relay + ", a hop of circuit 0, on circuit 1", x.extend(1 - here, relay), relay + 1);
        }
    }

    private static void extendFull() {
        OnionCircuits x = fresh();
        build(x, here, 2);
        due("the third hop", x.extend(here, 2), 3);
        due("relay 3 as a fourth", x.extend(here, 3), FULL);
        due("relay 4 as a fourth", x.extend(here, 4), FULL);
        due("the other circuit", x.extend(1 - here, 3), 1);
    }

    private static void extendAnswersHops() {
        OnionCircuits x = fresh();
        for (int i = 1; i <= 3; i++) {
            due("extend", x.extend(here, 5 - i), i);
            due("hops", x.hops(here), i);
        }
    }

    private static void extendAddsAtTheEnd() {
        OnionCircuits x = withStream(1);
        pass(x, 0, 5, FORWARD);
        x.send(here, 0, 6);
        x.reply(here, 0, 7);
        due("extend", x.extend(here, 4), 2);
        due("got", x.got(here, 0, FAR_END), 1);
        due("waiting forward", x.waiting(here, 0, FORWARD), 1);
        due("waiting backward", x.waiting(here, 0, BACKWARD), 1);
        due("the stream is open", x.open(here, 0), OPEN);
        due("the window forward", x.send(here, 0, 8), 2);
        due("the window backward", x.reply(here, 0, 9), 2);
        due("the new exit", x.open(here, 1), 1);
    }

    // ---- Promise 3

    private static void destroyTakesDown() {
        for (int hops = 1; hops <= 3; hops++) {
            OnionCircuits x = fresh();
            build(x, here, hops);
            for (int stream = 0; stream < 3; stream++) {
                x.open(here, stream);
                fillWindows(x, here, stream);
            }
            due("destroy", x.destroy(here), 18);
            dueTakenDown(x, here);
        }
    }

    private static void destroyLeavesNoHops() {
        OnionCircuits x = fresh();
        for (int first = 0; first < 5; first++) {
            for (int i = 0; i < 3; i++) {
                int relay = (first + i) % 5;
                due("relay " + relay + " in round " + first, x.extend(here, relay), i + 1);
            }
            x.destroy(here);
            due("hops", x.hops(here), 0);
        }
    }

    private static void destroyLeavesNoStreams() {
        OnionCircuits x = withStreamAtEveryHop();
        x.destroy(here);
        x.extend(here, 0);
        for (int stream = 0; stream < 3; stream++) {
            due("send on stream " + stream, x.send(here, stream, 1), BAD_STREAM);
            due("reply on stream " + stream, x.reply(here, stream, 1), BAD_STREAM);
            due("open of stream " + stream, x.open(here, stream), 0);
        }
    }

    private static void destroyLeavesNoCells() {
        OnionCircuits x = withStreamAtEveryHop();
        for (int stream = 0; stream < 3; stream++) {
            fillWindows(x, here, stream);
        }
        x.move(here, 0, FORWARD);
        x.move(here, 0, FORWARD);
        x.move(here, 2, BACKWARD);
        x.destroy(here);
        build(x, here, 3);
        for (int link = 0; link < 3; link++) {
            for (boolean forward : BOTH) {
                due("waiting on link " + link, x.waiting(here, link, forward), 0);
                due("move on link " + link, x.move(here, link, forward), NOTHING);
            }
        }
        for (int stream = 0; stream < 3; stream++) {
            x.open(here, stream);
            due("send on stream " + stream, x.send(here, stream, 1), 1);
            due("reply on stream " + stream, x.reply(here, stream, 1), 1);
        }
    }

    private static void whatWasGotIsGone() {
        OnionCircuits x = withHops(1);
        for (int stream = 0; stream < 3; stream++) {
            x.open(here, stream);
            for (int i = 0; i < 9; i++) {
                pass(x, stream, 40 + i, FORWARD);
                pass(x, stream, 50 + i, BACKWARD);
            }
        }
        due("destroy", x.destroy(here), 0);
        for (int again = 0; again < 2; again++) {
            for (int stream = 0; stream < 3; stream++) {
                for (boolean side : BOTH) {
                    due("got of stream " + stream, x.got(here, stream, side), 0);
                    due("byteGot of stream " + stream, x.byteGot(here, stream, side, 0), NOTHING);
                    due("byteGot back 7 of stream " + stream, x.byteGot(here, stream, side, 7), NOTHING);
                }
            }
            x.extend(here, 0);
            for (int stream = 0; stream < 3; stream++) {
                x.open(here, stream);
            }
        }
    }

    private static void destroyRefusals() {
        for (int c : NOT_A_CIRCUIT) {
            due("destroy of " + c, fresh().destroy(c), BAD_CIRCUIT);
            due("destroy of " + c + " beside a built one", withHops(2).destroy(c), BAD_CIRCUIT);
        }
        OnionCircuits x = fresh();
        due("destroy of an unbuilt one", x.destroy(here), NO_CIRCUIT);
        x.extend(here, 0);
        due("destroy", x.destroy(here), 0);
        due("destroy twice", x.destroy(here), NO_CIRCUIT);
    }

    private static void destroyAnswersCells() {
        for (boolean forward : BOTH) {
            for (int cells = 0; cells <= 9; cells++) {
                OnionCircuits x = withStreamAtEveryHop();
                for (int i = 0; i < cells; i++) {
                    launch(x, i % 3, i, forward);
                }
                due("destroy with " + cells + " cells", x.destroy(here), cells);
            }
        }
        OnionCircuits x = withStream(3);
        fillWindows(x, here, 0);
        x.move(here, 0, FORWARD);
        x.move(here, 0, FORWARD);
        x.move(here, 1, FORWARD);
        x.move(here, 2, BACKWARD);
        x.move(here, 2, BACKWARD);
        x.move(here, 1, BACKWARD);
        due("destroy with a cell on every link in each direction", x.destroy(here), 6);
        OnionCircuits y = withStream(1);
        fillWindows(y, here, 0);
        y.move(here, 0, FORWARD);
        y.move(here, 0, BACKWARD);
        y.move(here, 0, BACKWARD);
        due("destroy after three of six arrived", y.destroy(here), 3);
    }

    // ---- Promise 4

    private static void openRefusals() {
        for (int c : NOT_A_CIRCUIT) {
            due("open on circuit " + c, withHops(1).open(c, 0), BAD_CIRCUIT);
        }
        due("open on an unbuilt circuit", fresh().open(here, 0), NO_CIRCUIT);
        due("open beside a built circuit", withHops(1).open(1 - here, 0), NO_CIRCUIT);
    }

    private static void openBadStream() {
        for (int hops = 1; hops <= 3; hops++) {
            OnionCircuits x = withHops(hops);
            for (int stream : NOT_A_THIRD) {
                due("open of stream " + stream, x.open(here, stream), BAD_STREAM);
            }
            for (int stream = 0; stream < 3; stream++) {
                due("open of stream " + stream, x.open(here, stream), hops - 1);
            }
        }
    }

    private static void openTwice() {
        for (int stream = 0; stream < 3; stream++) {
            OnionCircuits x = withHops(1);
            due("open", x.open(here, stream), 0);
            due("open again", x.open(here, stream), OPEN);
            x.extend(here, 1);
            due("open again after extend", x.open(here, stream), OPEN);
            for (int other = 0; other < 3; other++) {
                due("open of stream " + other, x.open(here, other), other == stream ? OPEN : 1);
            }
            x.extend(1 - here, 0);
            due("open on the other circuit", x.open(1 - here, stream), 0);
        }
    }

    private static void openHasGotNothing() {
        for (int stream = 0; stream < 3; stream++) {
            OnionCircuits x = withHops(1);
            for (int round = 0; round < 3; round++) {
                x.open(here, stream);
                for (boolean side : BOTH) {
                    due("got", x.got(here, stream, side), 0);
                    due("byteGot", x.byteGot(here, stream, side, 0), NOTHING);
                    pass(x, stream, 60, side);
                    due("got after one byte", x.got(here, stream, side), 1);
                    due("byteGot behind the one byte", x.byteGot(here, stream, side, 1), NOTHING);
                }
                if (round == 0) {
                    x.destroy(here);
                } else {
                    x.send(here, stream, 1);
                    x.tamper(here, 0, FORWARD, 1);
                    x.move(here, 0, FORWARD);
                }
                x.extend(here, round);
            }
        }
    }

    private static void openAnswersTheHop() {
        for (int hops = 1; hops <= 3; hops++) {
            for (int stream = 0; stream < 3; stream++) {
                OnionCircuits x = fresh();
                // The answer is the hop's number, not the relay's.
                for (int i = 0; i < hops; i++) {
                    x.extend(here, 4 - i);
                }
                due("open of stream " + stream, x.open(here, stream), hops - 1);
            }
        }
        OnionCircuits y = withStream(3);
        y.destroy(here);
        y.extend(here, 2);
        due("open of a stream that was joined at hop 2 before destroy", y.open(here, 0), 0);
        due("send", y.send(here, 0, 1), 1);
        due("move", y.move(here, 0, FORWARD), 1);
    }

    // ---- Promises 5 and 6

    private static void bytesWrapAround() {
        int[] sent = {256, 257, 511, 512, -1, -2, -128, -255, -256, -257, 65535, 65536, MIN, MIN + 1, MAX, MAX - 255};
        int[] due = {0, 1, 255, 0, 255, 254, 128, 1, 0, 255, 255, 0, 0, 1, 255, 0};
        for (int i = 0; i < sent.length; i++) {
            for (boolean forward : BOTH) {
                OnionCircuits x = withStream(1);
                due("byte " + sent[i] + " under way", launch(x, 0, sent[i], forward), 1);
                due("byte " + sent[i] + " moved", x.move(here, 0, forward), 1);
                due("byte " + sent[i] + " got", x.byteGot(here, 0, forward, 0), due[i]);
            }
        }
    }

    private static void launchRefusals(boolean forward) {
        for (int c : NOT_A_CIRCUIT) {
            OnionCircuits x = withStream(1);
            due("on circuit " + c, forward ? x.send(c, 0, 1) : x.reply(c, 0, 1), BAD_CIRCUIT);
        }
        OnionCircuits y = withStream(1);
        due("on an unbuilt circuit", forward ? y.send(1 - here, 0, 1) : y.reply(1 - here, 0, 1), NO_CIRCUIT);
        due("on a new object", launch(fresh(), 0, 1, forward), NO_CIRCUIT);
    }

    private static void launchBadStream(boolean forward) {
        for (int stream = 0; stream < 3; stream++) {
            OnionCircuits x = withHops(2);
            due("on stream " + stream + ", none being open", launch(x, stream, 1, forward), BAD_STREAM);
            x.open(here, stream);
            for (int other = 0; other < 3; other++) {
                int want = other == stream ? 1 : BAD_STREAM;
                due("on stream " + other + ", " + stream + " being open", launch(x, other, 1, forward), want);
            }
        }
        OnionCircuits y = withStreamAtEveryHop();
        y.extend(1 - here, 0);
        for (int stream : NOT_A_THIRD) {
            due("on stream " + stream, launch(y, stream, 1, forward), BAD_STREAM);
        }
        for (int stream = 0; stream < 3; stream++) {
            int answer = forward ? y.send(1 - here, stream, 1) : y.reply(1 - here, stream, 1);
            due("on stream " + stream + ", open on the other circuit", answer, BAD_STREAM);
        }
    }

    private static void launchWindow(boolean forward) {
        for (int stream = 0; stream < 3; stream++) {
            OnionCircuits x = withStreamAtEveryHop();
            for (int i = 1; i <= 3; i++) {
                due("cell " + i, launch(x, stream, i, forward), i);
            }
            due("cell 4", launch(x, stream, 4, forward), WINDOW);
            due("cell 4 again", launch(x, stream, 4, forward), WINDOW);
            due("the other direction", launch(x, stream, 4, !forward), 1);
            due("another stream", launch(x, (stream + 1) % 3, 4, forward), 1);
        }
    }

    private static void launchAnswersCellsUnderWay(boolean forward) {
        OnionCircuits x = withStream(1);
        due("first", launch(x, 0, 1, forward), 1);
        x.move(here, 0, forward);
        due("first again", launch(x, 0, 2, forward), 1);
        due("second", launch(x, 0, 3, forward), 2);
        x.move(here, 0, forward);
        due("second again", launch(x, 0, 4, forward), 2);
        due("third", launch(x, 0, 5, forward), 3);
        x.move(here, 0, forward);
        due("third again", launch(x, 0, 6, forward), 3);
        for (int i = 0; i < 3; i++) {
            x.move(here, 0, forward);
        }
        due("first, all having arrived", launch(x, 0, 7, forward), 1);
        OnionCircuits y = withStream(1);
        fillWindows(y, here, 0);
        y.move(here, 0, !forward);
        due("the other direction's arrival makes no room", launch(y, 0, 8, forward), WINDOW);
        OnionCircuits z = withStream(2);
        z.open(here, 1);
        due("first", launch(z, 0, 1, forward), 1);
        due("first, another stream's cell being ahead on the link", launch(z, 1, 2, forward), 1);
        z.move(here, forward ? 0 : 1, forward);
        due("second, the first one being on the next link", launch(z, 0, 3, forward), 2);
    }

    // ---- Promise 7

    private static void moveRefusals() {
        for (boolean forward : BOTH) {
            for (int c : NOT_A_CIRCUIT) {
                OnionCircuits x = withStream(1);
                launch(x, 0, 1, forward);
                due("move on circuit " + c, x.move(c, 0, forward), BAD_CIRCUIT);
                due("move on an unbuilt circuit", x.move(1 - here, 0, forward), NO_CIRCUIT);
            }
        }
    }

    // A cell on every link in each direction, so that a wrong link can't be refused for want of a cell.
    private static OnionCircuits withACellEverywhere() {
        OnionCircuits x = fresh();
        for (int c = 0; c < 2; c++) {
            build(x, c, 3);
            x.open(c, 0);
            fillWindows(x, c, 0);
            x.move(c, 0, FORWARD);
            x.move(c, 0, FORWARD);
            x.move(c, 1, FORWARD);
            x.move(c, 2, BACKWARD);
            x.move(c, 2, BACKWARD);
            x.move(c, 1, BACKWARD);
        }
        return x;
    }

    private static void moveOnAWrongLink() {
        OnionCircuits x = withACellEverywhere();
        for (int c = 0; c < 2; c++) {
            for (int link : NOT_A_THIRD) {
                due("move forward on link " + link, x.move(c, link, FORWARD), NOTHING);
                due("move backward on link " + link, x.move(c, link, BACKWARD), NOTHING);
            }
        }
        for (int c = 0; c < 2; c++) {
            for (int link = 0; link < 3; link++) {
                due("waiting forward on link " + link, x.waiting(c, link, FORWARD), 1);
                due("waiting backward on link " + link, x.waiting(c, link, BACKWARD), 1);
            }
        }
    }

    private static void moveWithoutACell() {
        OnionCircuits x = withStream(3);
        for (int link = 0; link < 3; link++) {
            due("move forward on link " + link, x.move(here, link, FORWARD), NOTHING);
            due("move backward on link " + link, x.move(here, link, BACKWARD), NOTHING);
        }
        for (boolean forward : BOTH) {
            for (int with = 0; with < 3; with++) {
                OnionCircuits y = withStream(3);
                launch(y, 0, 1, forward);
                for (int i = 0; i < with; i++) {
                    y.move(here, forward ? i : 2 - i, forward);
                }
                int full = forward ? with : 2 - with;
                for (int link = 0; link < 3; link++) {
                    due("move the other way on link " + link, y.move(here, link, !forward), NOTHING);
                    if (link != full) {
                        due("move on link " + link, y.move(here, link, forward), NOTHING);
                    }
                }
                due("move on link " + full, y.move(here, full, forward), with == 2 ? 1 : 0);
                due("move on link " + full + " again", y.move(here, full, forward), NOTHING);
            }
        }
    }

    private static void linksBeyondTheExit() {
        for (int hops = 1; hops < 3; hops++) {
            OnionCircuits x = withStream(hops);
            fillWindows(x, here, 0);
            for (int link = hops; link < 3; link++) {
                due("move forward on link " + link + " of " + hops, x.move(here, link, FORWARD), NOTHING);
                due("move backward on link " + link + " of " + hops, x.move(here, link, BACKWARD), NOTHING);
                due("tamper on link " + link + " of " + hops, x.tamper(here, link, FORWARD, 1), NOTHING);
                due("waiting on link " + link + " of " + hops, x.waiting(here, link, FORWARD), 0);
            }
        }
    }

    private static void tamperedCellGoesOut() {
        for (boolean forward : BOTH) {
            for (int stream = 0; stream < 3; stream++) {
                OnionCircuits x = withStreamAtEveryHop();
                x.send(here, 0, 30);
                x.move(here, 0, FORWARD);
                x.reply(here, 0, 31);
                x.move(here, 0, BACKWARD);
                launch(x, stream, 1, forward);
                int last = forward ? stream : 0;
                int step = forward ? 1 : -1;
                for (int link = forward ? 0 : stream; link != last; link += step) {
                    due("move off link " + link, x.move(here, link, forward), 0);
                }
                x.tamper(here, last, forward, 16);
                for (int s = 0; s < 3; s++) {
                    fillWindows(x, here, s);
                }
                due("move off link " + last, x.move(here, last, forward), 2);
                dueTakenDown(x, here);
                for (int i = 0; i < 3; i++) {
                    due("a relay of before", x.extend(here, i), i + 1);
                }
                for (int s = 0; s < 3; s++) {
                    due("a stream of before", x.send(here, s, 1), BAD_STREAM);
                    due("it is opened", x.open(here, s), 2);
                    due("its window forward", x.send(here, s, 1), 1);
                    due("its window backward", x.reply(here, s, 1), 1);
                    due("its bytes at the far end", x.got(here, s, FAR_END), 0);
                    due("its bytes at the client", x.got(here, s, CLIENT), 0);
                }
            }
        }
    }

    private static void takenDownAlone() {
        OnionCircuits x = withACellEverywhere();
        x.tamper(here, 2, FORWARD, 1);
        due("move", x.move(here, 2, FORWARD), 2);
        due("hops of the other circuit", x.hops(1 - here), 3);
        due("the other circuit's cell", x.move(1 - here, 2, FORWARD), 1);
        due("destroy of the other circuit", x.destroy(1 - here), 5);
    }

    private static void arrivedOrOnTheNextLink() {
        OnionCircuits x = withACellEverywhere();
        due("off link 2 forward", x.move(here, 2, FORWARD), 1);
        due("off link 1 forward", x.move(here, 1, FORWARD), 0);
        due("waiting on link 2", x.waiting(here, 2, FORWARD), 1);
        due("off link 0 forward", x.move(here, 0, FORWARD), 0);
        due("waiting on link 1", x.waiting(here, 1, FORWARD), 1);
        due("waiting on link 0", x.waiting(here, 0, FORWARD), 0);
        due("off link 0 backward", x.move(here, 0, BACKWARD), 1);
        due("off link 1 backward", x.move(here, 1, BACKWARD), 0);
        due("waiting on link 0", x.waiting(here, 0, BACKWARD), 1);
        due("off link 2 backward", x.move(here, 2, BACKWARD), 0);
        due("waiting on link 1", x.waiting(here, 1, BACKWARD), 1);
        due("waiting on link 2", x.waiting(here, 2, BACKWARD), 0);
        due("got at the far end", x.got(here, 0, FAR_END), 1);
        due("got at the client", x.got(here, 0, CLIENT), 1);
    }

    // ---- Promise 8

    private static void tamperRefusals() {
        for (boolean forward : BOTH) {
            OnionCircuits x = withStream(1);
            launch(x, 0, 1, forward);
            for (int c : NOT_A_CIRCUIT) {
                due("tamper on circuit " + c, x.tamper(c, 0, forward, 1), BAD_CIRCUIT);
            }
            due("tamper on an unbuilt circuit", x.tamper(1 - here, 0, forward, 1), NO_CIRCUIT);
            due("tamper the other way", x.tamper(here, 0, !forward, 1), NOTHING);
            due("tamper on link 1", x.tamper(here, 1, forward, 1), NOTHING);
            due("tamper on link 2", x.tamper(here, 2, forward, 1), NOTHING);
            due("the cell", x.move(here, 0, forward), 1);
            due("tamper after the cell has gone", x.tamper(here, 0, forward, 1), NOTHING);
        }
        OnionCircuits y = withACellEverywhere();
        for (int c = 0; c < 2; c++) {
            for (int link : NOT_A_THIRD) {
                due("tamper forward on link " + link, y.tamper(c, link, FORWARD, 1), NOTHING);
                due("tamper backward on link " + link, y.tamper(c, link, BACKWARD, 1), NOTHING);
            }
        }
    }

    private static void noBitsDoNothing() {
        int[] none = {0, 256, 512, -256, 65536, 0x7fffff00, MIN};
        for (boolean forward : BOTH) {
            for (int bits : none) {
                OnionCircuits x = withStream(1);
                launch(x, 0, 44, forward);
                due("tamper with " + bits, x.tamper(here, 0, forward, bits), 0);
                due("move", x.move(here, 0, forward), 1);
                due("byteGot", x.byteGot(here, 0, forward, 0), 44);
                launch(x, 0, 45, forward);
                x.tamper(here, 0, forward, 1);
                due("tamper with " + bits + " after 1", x.tamper(here, 0, forward, bits), 0);
                due("move of a cell tampered with before", x.move(here, 0, forward), 2);
            }
        }
    }

    private static void anyBitsTamper() {
        for (boolean forward : BOTH) {
            for (int bits = 0; bits < 256; bits++) {
                OnionCircuits x = withStream(1);
                launch(x, 0, bits, forward);
                due("tamper with " + bits, x.tamper(here, 0, forward, bits), 0);
                due("move after " + bits, x.move(here, 0, forward), bits == 0 ? 1 : 2);
            }
        }
        int[] some = {257, -1, -255, 65537, MIN + 1, MAX};
        for (int bits : some) {
            OnionCircuits x = withStream(1);
            x.send(here, 0, 1);
            due("tamper with " + bits, x.tamper(here, 0, FORWARD, bits), 0);
            due("move after " + bits, x.move(here, 0, FORWARD), 2);
        }
    }

    private static void tamperedWithFromThenOn() {
        OnionCircuits x = withStream(1);
        x.send(here, 0, 1);
        x.send(here, 0, 2);
        due("a cell before it", x.move(here, 0, FORWARD), 1);
        x.tamper(here, 0, FORWARD, 1);
        x.send(here, 0, 3);
        x.reply(here, 0, 4);
        x.extend(here, 1);
        due("a cell of the other direction", x.move(here, 0, BACKWARD), 1);
        due("the cell", x.move(here, 0, FORWARD), 2);
    }

    private static void tamperingTwiceUndoesIt() {
        for (boolean forward : BOTH) {
            for (int bits = 1; bits < 256; bits++) {
                OnionCircuits x = withStream(1);
                launch(x, 0, 99, forward);
                x.tamper(here, 0, forward, bits);
                x.tamper(here, 0, forward, bits);
                due("move after " + bits + " twice", x.move(here, 0, forward), 1);
                due("byteGot", x.byteGot(here, 0, forward, 0), 99);
                launch(x, 0, 98, forward);
                for (int i = 0; i < 3; i++) {
                    x.tamper(here, 0, forward, bits);
                }
                due("move after " + bits + " three times", x.move(here, 0, forward), 2);
            }
        }
    }

    private static void allBitsTogether() {
        int[][] rows = {
            {1, 2, 3}, {1, 2, 4, 7}, {255, 15, 240}, {257, 1}, {-1, 255}, {128, -128}, {3, 512 + 3}, {5, 0, 5},
            {1, 2}, {1, 2, 1}, {255, 254}, {128, 64, 32}, {256, 1}, {7, 7, 7}};
        int undoneRows = 8;
        for (int i = 0; i < rows.length; i++) {
            boolean undone = i < undoneRows;
            OnionCircuits x = withStream(3);
            x.send(here, 0, 21);
            // On one link after another: the bits stay turned round when the cell moves on.
            for (int part = 0; part < rows[i].length; part++) {
                int link = part < 2 ? part : 2;
                x.tamper(here, link, FORWARD, rows[i][part]);
                if (link < 2) {
                    x.move(here, link, FORWARD);
                }
            }
            due("the end of row " + i, x.move(here, 2, FORWARD), undone ? 1 : 2);
            due("the byte of row " + i, x.byteGot(here, 0, FAR_END, 0), undone ? 21 : NOTHING);
        }
    }

    private static void theOldestIsTamperedWith() {
        for (boolean forward : BOTH) {
            OnionCircuits x = withStream(2);
            int first = forward ? 0 : 1;
            for (int i = 0; i < 3; i++) {
                launch(x, 0, i, forward);
            }
            x.tamper(here, first, forward, 1);
            x.move(here, first, forward);
            x.tamper(here, 1 - first, forward, 1);
            due("the oldest, whole again", x.move(here, 1 - first, forward), 1);
            x.move(here, first, forward);
            due("the second, never touched", x.move(here, 1 - first, forward), 1);
            x.tamper(here, first, forward, 1);
            x.move(here, first, forward);
            due("the third, the oldest by then", x.move(here, 1 - first, forward), 2);
        }
    }

    // ---- Promise 9

    private static void gotCounts() {
        for (boolean forward : BOTH) {
            for (int stream = 0; stream < 3; stream++) {
                OnionCircuits x = withHops(1);
                x.open(here, stream);
                for (int i = 0; i < 150; i++) {
                    due("got", x.got(here, stream, forward), i);
                    pass(x, stream, i, forward);
                }
                due("got at the last", x.got(here, stream, forward), 150);
                due("got on the other side", x.got(here, stream, !forward), 0);
            }
        }
    }

    private static void gotWithoutCircuitOrStream() {
        for (boolean side : BOTH) {
            OnionCircuits x = withStream(1);
            pass(x, 0, 1, FORWARD);
            pass(x, 0, 1, BACKWARD);
            due("got on the open stream", x.got(here, 0, side), 1);
            for (int stream = 0; stream < 3; stream++) {
                due("got on an unbuilt circuit", x.got(1 - here, stream, side), 0);
            }
            due("got on stream 1, not open", x.got(here, 1, side), 0);
            due("got on stream 2, not open", x.got(here, 2, side), 0);
            x.extend(1 - here, 0);
            due("got on a built circuit's stream, not open", x.got(1 - here, 0, side), 0);
            for (int stream : NOT_A_THIRD) {
                due("got on stream " + stream, x.got(here, stream, side), 0);
                due("got on stream " + stream, x.got(1 - here, stream, side), 0);
            }
            x.destroy(here);
            due("got after destroy", x.got(here, 0, side), 0);
            x.extend(here, 0);
            due("got on a stream that was open before destroy", x.got(here, 0, side), 0);
        }
    }

    // ---- Promise 10

    private static void byteGotBack() {
        for (boolean forward : BOTH) {
            OnionCircuits x = withStream(1);
            // Past eight and past sixteen bytes, where a store of eight goes round.
            for (int count = 0; count <= 25; count++) {
                for (int back = 0; back < 8; back++) {
                    int want = back < count ? 200 + count - back : NOTHING;
                    due("byteGot back " + back + " of " + count, x.byteGot(here, 0, forward, back), want);
                }
                pass(x, 0, 201 + count, forward);
            }
        }
    }

    private static void byteGotNothing() {
        for (boolean side : BOTH) {
            OnionCircuits x = withStream(1);
            due("byteGot, nothing having been got", x.byteGot(here, 0, side, 0), NOTHING);
            pass(x, 0, 0, side);
            due("byteGot of byte 0", x.byteGot(here, 0, side, 0), 0);
            due("byteGot behind it", x.byteGot(here, 0, side, 1), NOTHING);
            due("byteGot on the other side", x.byteGot(here, 0, !side, 0), NOTHING);
            due("byteGot on a stream that isn't open", x.byteGot(here, 1, side, 0), NOTHING);
            due("byteGot on an unbuilt circuit", x.byteGot(1 - here, 0, side, 0), NOTHING);
            for (int stream : NOT_A_THIRD) {
                due("byteGot on stream " + stream, x.byteGot(here, stream, side, 0), NOTHING);
            }
            launch(x, 0, 5, !side);
            due("byteGot of a byte under way", x.byteGot(here, 0, !side, 0), NOTHING);
        }
    }

    private static void backOutOfRange() {
        int[] backs = {-1, 8, -8, -7, 9, 15, 16, 256, MIN, MAX, MIN + 1};
        for (int count = 0; count <= 20; count++) {
            OnionCircuits x = withStream(1);
            for (int i = 0; i < count; i++) {
                pass(x, 0, i + 1, FORWARD);
            }
            for (int back : backs) {
                due("byteGot back " + back + " of " + count, x.byteGot(here, 0, FAR_END, back), NOTHING);
            }
        }
    }

    // ---- Promise 11

    private static void waitingCounts() {
        for (boolean forward : BOTH) {
            OnionCircuits x = withHops(3);
            int first = forward ? 0 : 2;
            int step = forward ? 1 : -1;
            due("waiting on an empty link", x.waiting(here, first, forward), 0);
            for (int cell = 0; cell < 9; cell++) {
                x.open(here, cell % 3);
                launch(x, cell % 3, cell, forward);
                due("waiting", x.waiting(here, first, forward), cell + 1);
            }
            for (int link = first; link != 2 - first; link += step) {
                for (int moved = 1; moved <= 9; moved++) {
                    x.move(here, link, forward);
                    due("waiting behind", x.waiting(here, link, forward), 9 - moved);
                    due("waiting ahead", x.waiting(here, link + step, forward), moved);
                    due("waiting the other way", x.waiting(here, link, !forward), 0);
                }
            }
            for (int cell = 0; cell < 9; cell++) {
                due("arrives", x.move(here, 2 - first, forward), 1);
                due("got of its stream", x.got(here, cell % 3, forward), cell / 3 + 1);
                due("its byte", x.byteGot(here, cell % 3, forward, 0), cell);
                due("waiting on the last link", x.waiting(here, 2 - first, forward), 8 - cell);
            }
        }
    }

    private static void waitingWithoutCircuitOrLink() {
        OnionCircuits x = withACellEverywhere();
        for (boolean forward : BOTH) {
            for (int c = 0; c < 2; c++) {
                for (int link : NOT_A_THIRD) {
                    due("waiting on link " + link, x.waiting(c, link, forward), 0);
                }
            }
            for (int link = 0; link < 3; link++) {
                due("waiting on a new object", fresh().waiting(here, link, forward), 0);
                OnionCircuits y = withACellEverywhere();
                y.destroy(here);
                due("waiting after destroy", y.waiting(here, link, forward), 0);
                due("waiting on the other circuit", y.waiting(1 - here, link, forward), 1);
            }
        }
    }

    // ---- Promise 12

    private static void hopsCounts() {
        OnionCircuits x = fresh();
        for (int hops = 0; hops <= 3; hops++) {
            due("hops", x.hops(here), hops);
            due("hops of the other circuit", x.hops(1 - here), 0);
            x.extend(here, hops);
        }
        due("hops after a refused fourth", x.hops(here), 3);
        x.destroy(here);
        due("hops after destroy", x.hops(here), 0);
    }

    private static void hopsBadCircuit() {
        for (int c : NOT_A_CIRCUIT) {
            due("hops of " + c, fresh().hops(c), BAD_CIRCUIT);
            due("hops of " + c + " beside built ones", withACellEverywhere().hops(c), BAD_CIRCUIT);
        }
    }

    // ---- Promise 13

    private static void badRelayBeforeFull() {
        OnionCircuits x = withHops(3);
        for (int relay : NOT_A_RELAY) {
            due("relay " + relay + " on a full circuit", x.extend(here, relay), BAD_RELAY);
        }
        for (int relay = 0; relay < 5; relay++) {
            due("relay " + relay + " on a full circuit", x.extend(here, relay), relay < 3 ? BAD_RELAY : FULL);
        }
    }

    private static void tamperRefusalsWithNoBits() {
        int[] none = {0, 256, -256, MIN};
        for (int bits : none) {
            OnionCircuits x = withStream(1);
            x.send(here, 0, 1);
            due("tamper on circuit -1", x.tamper(-1, 0, FORWARD, bits), BAD_CIRCUIT);
            due("tamper on circuit 2", x.tamper(2, 0, FORWARD, bits), BAD_CIRCUIT);
            due("tamper on an unbuilt circuit", x.tamper(1 - here, 0, FORWARD, bits), NO_CIRCUIT);
            due("tamper on link -1", x.tamper(here, -1, FORWARD, bits), NOTHING);
            due("tamper on link 3", x.tamper(here, 3, FORWARD, bits), NOTHING);
            due("tamper on a link without a cell", x.tamper(here, 1, FORWARD, bits), NOTHING);
            due("tamper the other way", x.tamper(here, 0, BACKWARD, bits), NOTHING);
            due("tamper where a cell is", x.tamper(here, 0, FORWARD, bits), 0);
        }
    }

    private static void oldestCameFirst() {
        OnionCircuits x = withStreamAtEveryHop();
        // Made in the order 2, 1, 0, but onto link 0 they come in the order 0, 1, 2.
        x.reply(here, 2, 102);
        x.reply(here, 1, 101);
        x.reply(here, 0, 100);
        due("off link 1", x.move(here, 1, BACKWARD), 0);
        due("off link 2", x.move(here, 2, BACKWARD), 0);
        due("off link 1 again", x.move(here, 1, BACKWARD), 0);
        for (int stream = 0; stream < 3; stream++) {
            due("got of stream " + stream + " before", x.got(here, stream, CLIENT), 0);
            due("off link 0", x.move(here, 0, BACKWARD), 1);
            due("byteGot of stream " + stream, x.byteGot(here, stream, CLIENT, 0), 100 + stream);
        }

        OnionCircuits y = withStream(2);
        // The first cell of the run has long gone: places on the link are used again.
        int next = 0;
        for (int i = 0; i < 40; i++) {
            for (int tries = 0; tries < 4; tries++) {
                next += y.send(here, 0, next) > 0 ? 1 : 0;
            }
            y.move(here, 0, FORWARD);
            y.move(here, 0, FORWARD);
            due("move " + i, y.move(here, 1, FORWARD), 1);
            due("byte " + i, y.byteGot(here, 0, FAR_END, 0), i);
        }
    }

    private static void readingAWrongCircuit() {
        OnionCircuits x = fresh();
        for (int c = 0; c < 2; c++) {
            x.extend(c, 0);
            x.open(c, 0);
            x.send(c, 0, 1);
            x.move(c, 0, FORWARD);
            x.reply(c, 0, 1);
            x.move(c, 0, BACKWARD);
            x.send(c, 0, 1);
            x.reply(c, 0, 1);
        }
        for (boolean side : BOTH) {
            for (int c : NOT_A_CIRCUIT) {
                due("got on circuit " + c, x.got(c, 0, side), 0);
                due("got of a wrong stream on circuit " + c, x.got(c, 3, side), 0);
                due("waiting on circuit " + c, x.waiting(c, 0, side), 0);
                due("waiting on a wrong link of circuit " + c, x.waiting(c, 3, side), 0);
                due("byteGot on circuit " + c, x.byteGot(c, 0, side, 0), NOTHING);
                due("byteGot of a wrong stream on circuit " + c, x.byteGot(c, 3, side, 8), NOTHING);
            }
        }
    }

    private static void checkTerms() {
        check("What it is:", "used for at most 512 calls after it has been made", OnionCircuitsBoundaries::the512thCall);
        check("Terms:", "five RELAYS (0 to 4)", OnionCircuitsBoundaries::fiveRelays);
        check("Terms:", "two CIRCUITS (0 and 1)", OnionCircuitsBoundaries::twoCircuits);
        check("Terms:", "over one [..] relays", OnionCircuitsBoundaries::oneHopIsEnough);
        check("Terms:", "to three relays", OnionCircuitsBoundaries::atMostThreeHops);
        check("Terms:", "all different", OnionCircuitsBoundaries::allDifferent);
        check("Terms:", "up to three STREAMS (0 to 2) are open", OnionCircuitsBoundaries::threeStreamsAtOnce);
        check("Terms:", "each joined at the relay that was the exit when it was opened",
            OnionCircuitsBoundaries::joinedWhereTheExitWas);
        check("Terms:", "Data are bytes (0 to 255)", OnionCircuitsBoundaries::everyByteArrives);
        check("Terms:", "a cell which was tampered with is known at its end",
            OnionCircuitsBoundaries::tamperingIsKnownAtTheEndAlone);
        check("Terms:", "FORWARD on the circuit, at the first link", OnionCircuitsBoundaries::sentAtTheFirstLink);
        check("Terms:", "BACKWARD, at the link that leads to the stream's relay",
            OnionCircuitsBoundaries::repliedAtTheLinkToTheRelay);
        check("Terms:", "from the client, if it is hop 0", OnionCircuitsBoundaries::repliedFromHop0);
        check("Terms:", "takes the oldest cell of one link in one direction on",
            OnionCircuitsBoundaries::oneCellOfOneLinkInOneDirection);
        check("Terms:", "A forward cell moved off the link to its stream's relay arrives there",
            OnionCircuitsBoundaries::forwardCellsArriveAtTheirRelay);
        check("Terms:", "A backward cell moved off link 0 arrives at the client",
            OnionCircuitsBoundaries::backwardCellsArriveAtTheClient);
        check("Terms:", "its byte is appended to what the stream has GOT", OnionCircuitsBoundaries::appendedToWhatWasGot);
        check("Terms:", "at most three cells under way in each direction",
            OnionCircuitsBoundaries::threeUnderWayInEachDirection);
        check("Terms:", "under way, on whichever link", OnionCircuitsBoundaries::cellsOnAnyLinkAreUnderWay);
        check("Terms:", "A circuit not 0 or 1 is BAD_CIRCUIT, tested first", OnionCircuitsBoundaries::badCircuitFirst);
        check("Terms:", "then [..] NO_CIRCUIT if it has no hops", OnionCircuitsBoundaries::thenNoCircuit);
        check("Terms:", "where it has to be built", OnionCircuitsBoundaries::extendNeedsNoCircuit);
    }

    private static void checkBuilding() {
        check("1:", "it changes nothing that any call answers", OnionCircuitsBoundaries::seedChangesNothing);
        check("1:", "No circuit is built", OnionCircuitsBoundaries::noCircuitIsBuilt);
        check("2:", "BAD_CIRCUIT", OnionCircuitsBoundaries::extendBadCircuit);
        check("2:", "relay not in 0 to 4: BAD_RELAY", OnionCircuitsBoundaries::relayOutOfRange);
        check("2:", "a hop of this circuit already: BAD_RELAY", OnionCircuitsBoundaries::relayIsAHopAlready);
        check("2:", "a hop of THIS circuit", OnionCircuitsBoundaries::anotherCircuitsHopIsFree);
        check("2:", "it has three hops: FULL", OnionCircuitsBoundaries::extendFull);
        check("2:", "Else answers how many hops it has", OnionCircuitsBoundaries::extendAnswersHops);
        check("2:", "Adds a hop to the end", OnionCircuitsBoundaries::extendAddsAtTheEnd);
        check("3:", "Takes a circuit down", OnionCircuitsBoundaries::destroyTakesDown);
        check("3:", "no hops", OnionCircuitsBoundaries::destroyLeavesNoHops);
        check("3:", "no streams", OnionCircuitsBoundaries::destroyLeavesNoStreams);
        check("3:", "no cells", OnionCircuitsBoundaries::destroyLeavesNoCells);
        check("3:", "what streams had got is gone", OnionCircuitsBoundaries::whatWasGotIsGone);
        check("3:", "BAD_CIRCUIT; NO_CIRCUIT", OnionCircuitsBoundaries::destroyRefusals);
        check("3:", "Else answers how many cells were under way", OnionCircuitsBoundaries::destroyAnswersCells);
        check("4:", "BAD_CIRCUIT; NO_CIRCUIT", OnionCircuitsBoundaries::openRefusals);
        check("4:", "stream not in 0 to 2: BAD_STREAM", OnionCircuitsBoundaries::openBadStream);
        check("4:", "it is open: OPEN", OnionCircuitsBoundaries::openTwice);
        check("4:", "Else nothing has been got on it in either direction", OnionCircuitsBoundaries::openHasGotNothing);
        check("4:", "answers the hop where it is joined", OnionCircuitsBoundaries::openAnswersTheHop);
    }

    private static void checkCells() {
        check("5, 6:", "a byte (b & 255)", OnionCircuitsBoundaries::bytesWrapAround);
        check("5:", "BAD_CIRCUIT; NO_CIRCUIT", () -> launchRefusals(FORWARD));
        check("5:", "the stream isn't open (or not in 0 to 2): BAD_STREAM", () -> launchBadStream(FORWARD));
        check("5:", "it has three cells under way forward: WINDOW", () -> launchWindow(FORWARD));
        check("5:", "answers how many it has under way forward then", () -> launchAnswersCellsUnderWay(FORWARD));
        check("6:", "BAD_CIRCUIT; NO_CIRCUIT", () -> launchRefusals(BACKWARD));
        check("6:", "BAD_STREAM", () -> launchBadStream(BACKWARD));
        check("6:", "it has three cells under way backward: WINDOW", () -> launchWindow(BACKWARD));
        check("6:", "answers how many it has under way backward then", () -> launchAnswersCellsUnderWay(BACKWARD));
        check("7:", "BAD_CIRCUIT; NO_CIRCUIT", OnionCircuitsBoundaries::moveRefusals);
        check("7:", "link not in 0 to 2: NOTHING", OnionCircuitsBoundaries::moveOnAWrongLink);
        check("7:", "no cell there in that direction: NOTHING", OnionCircuitsBoundaries::moveWithoutACell);
        check("7, 8, 11:", "no cell there, the circuit being shorter", OnionCircuitsBoundaries::linksBeyondTheExit);
        check("7:", "goes out [..] and was tampered with, the circuit is taken down as by destroy: answers 2",
            OnionCircuitsBoundaries::tamperedCellGoesOut);
        check("7:", "THE circuit is taken down", OnionCircuitsBoundaries::takenDownAlone);
        check("7:", "1 if it arrived, 0 if it is on the next link now", OnionCircuitsBoundaries::arrivedOrOnTheNextLink);
        check("8:", "BAD_CIRCUIT; NO_CIRCUIT; NOTHING as for move", OnionCircuitsBoundaries::tamperRefusals);
        check("8:", "bits & 255 being 0 does nothing", OnionCircuitsBoundaries::noBitsDoNothing);
        check("8:", "Else the cell was tampered with", OnionCircuitsBoundaries::anyBitsTamper);
        check("8:", "from then on", OnionCircuitsBoundaries::tamperedWithFromThenOn);
        check("8:", "tampering twice with the same bits undoes it", OnionCircuitsBoundaries::tamperingTwiceUndoesIt);
        check("8:", "whether all bits that were turned round in it together are 0",
            OnionCircuitsBoundaries::allBitsTogether);
        check("8:", "Tampers with the oldest cell there", OnionCircuitsBoundaries::theOldestIsTamperedWith);
    }

    private static void checkReading() {
        check("9:", "How many bytes the stream has got at the far end or at the client", OnionCircuitsBoundaries::gotCounts);
        check("9:", "0 if the circuit isn't built or the stream isn't open",
            OnionCircuitsBoundaries::gotWithoutCircuitOrStream);
        check("10:", "The last byte but 'back' (0 to 7, 0 is the last)", OnionCircuitsBoundaries::byteGotBack);
        check("10:", "NOTHING if there is none", OnionCircuitsBoundaries::byteGotNothing);
        check("10:", "'back' (0 to 7)", OnionCircuitsBoundaries::backOutOfRange);
        check("11:", "How many cells are on the link in that direction", OnionCircuitsBoundaries::waitingCounts);
        check("11:", "0 if the circuit isn't built or link not in 0 to 2",
            OnionCircuitsBoundaries::waitingWithoutCircuitOrLink);
        check("12:", "How many hops the circuit has", OnionCircuitsBoundaries::hopsCounts);
        check("12:", "BAD_CIRCUIT", OnionCircuitsBoundaries::hopsBadCircuit);
        check("13:", "BAD_RELAY is tested before FULL", OnionCircuitsBoundaries::badRelayBeforeFull);
        check("13:", "the refusals are tested also if bits & 255 is 0", OnionCircuitsBoundaries::tamperRefusalsWithNoBits);
        check("13:", "The oldest cell on a link is the one that came onto it first",
            OnionCircuitsBoundaries::oldestCameFirst);
        check("13:", "got and waiting answer 0, and byteGot NOTHING, also for a circuit that is not 0 or 1",
            OnionCircuitsBoundaries::readingAWrongCircuit);
    }

    public static void main(String[] args) {
        checkTerms();
        checkBuilding();
        checkCells();
        checkReading();
        System.out.println(wrong == 0 ? "all " + sentences + " sentences hold" : wrong + " answers are not as due");
        if (wrong != 0) {
            System.exit(1);
        }
    }
}
