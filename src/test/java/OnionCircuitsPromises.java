// The promises of DOC.md one by one: ordinary inputs, the edges it names, and wrong inputs.
public final class OnionCircuitsPromises {
    private static final int BAD_CIRCUIT = -1;
    private static final int BAD_RELAY = -2;
    private static final int BAD_STREAM = -3;
    private static final int FULL = -4;
    private static final int NO_CIRCUIT = -5;
    private static final int WINDOW = -6;
    private static final int NOTHING = -7;
    private static final int OPEN = -8;

    private static final boolean FORWARD = true;
    private static final boolean BACKWARD = false;
    private static final boolean FAR_END = true;
    private static final boolean CLIENT = false;

    private static final int[] WRONG_CIRCUITS = {-1, 2, 3, Integer.MIN_VALUE, Integer.MAX_VALUE};
    private static final int[] WRONG_RELAYS = {-1, 5, 6, Integer.MIN_VALUE, Integer.MAX_VALUE};
    private static final int[] WRONG_THIRDS = {-1, 3, 4, Integer.MIN_VALUE, Integer.MAX_VALUE};

    private static int wrong = 0;

    private static void due(String what, int got, int want) {
        if (got != want) {
            wrong++;
            System.out.println(what + " answered " + got + ", due is " + want);
        }
    }

    private static void sameState(String what, String before, OnionCircuits x) {
        String after = state(x);
        if (!before.equals(after)) {
            wrong++;
            System.out.println(what + " changed the state from " + before + " to " + after);
        }
    }

    // All that the calls which change nothing can tell.
    private static String state(OnionCircuits x) {
        StringBuilder s = new StringBuilder();
        for (int circuit = 0; circuit < 2; circuit++) {
            s.append("hops ").append(x.hops(circuit)).append(';');
            for (int side = 0; side < 2; side++) {
                for (int i = 0; i < 3; i++) {
                    s.append(' ').append(x.waiting(circuit, i, side == 0));
                    s.append(' ').append(x.got(circuit, i, side == 0)).append(':');
                    for (int back = 0; back < 8; back++) {
                        s.append(x.byteGot(circuit, i, side == 0, back)).append(',');
                    }
                }
            }
        }
        return s.toString();
    }

    private static OnionCircuits withHops(int hops) {
        OnionCircuits x = new OnionCircuits(7);
        for (int relay = 0; relay < hops; relay++) {
            x.extend(0, relay);
        }
        return x;
    }

    private static OnionCircuits withStream(int hops) {
        OnionCircuits x = withHops(hops);
        x.open(0, 0);
        return x;
    }

    private static void passOn(OnionCircuits x, int b) {
        x.send(0, 0, b);
        x.move(0, 0, FORWARD);
    }

    private static void newObject() {
        int[] seeds = {0, 1, -1, Integer.MIN_VALUE, Integer.MAX_VALUE};
        String empty = state(new OnionCircuits(12));
        for (int seed : seeds) {
            OnionCircuits x = new OnionCircuits(seed);
            sameState("1: a new object with seed " + seed, empty, x);
            for (int circuit = 0; circuit < 2; circuit++) {
                due("1: hops", x.hops(circuit), 0);
                due("1: destroy", x.destroy(circuit), NO_CIRCUIT);
                due("1: open", x.open(circuit, 0), NO_CIRCUIT);
            }
        }
    }

    private static void objectsAreApart() {
        OnionCircuits x = withStream(1);
        OnionCircuits y = new OnionCircuits(7);
        passOn(x, 9);
        due("1: another object's hops", y.hops(0), 0);
        due("1: another object's got", y.got(0, 0, FAR_END), 0);
    }

    private static void extend() {
        OnionCircuits x = new OnionCircuits(1);
        for (int c : WRONG_CIRCUITS) {
            due("2: extend on circuit " + c, x.extend(c, 0), BAD_CIRCUIT);
            due("2: extend on circuit " + c + " with a wrong relay", x.extend(c, 9), BAD_CIRCUIT);
        }
        for (int r : WRONG_RELAYS) {
            due("2: extend to relay " + r, x.extend(0, r), BAD_RELAY);
        }
        due("2: hops after refusals", x.hops(0), 0);
        due("2: first hop", x.extend(0, 4), 1);
        due("2: the same relay again", x.extend(0, 4), BAD_RELAY);
        due("2: second hop", x.extend(0, 0), 2);
        due("2: the first relay again", x.extend(0, 4), BAD_RELAY);
        due("2: third hop", x.extend(0, 2), 3);
        due("2: a fourth hop", x.extend(0, 1), FULL);
        due("2: a fourth hop once more", x.extend(0, 1), FULL);
        due("2: hops of the full circuit", x.hops(0), 3);
        due("2: the other circuit may share a relay", x.extend(1, 4), 1);
        due("2: the other circuit, second hop", x.extend(1, 1), 2);
    }

    private static void everyRelay() {
        for (int relay = 0; relay < 5; relay++) {
            OnionCircuits x = new OnionCircuits(1);
            due("2: relay " + relay, x.extend(1, relay), 1);
            due("2: relay " + relay + " twice", x.extend(1, relay), BAD_RELAY);
        }
    }

    private static void destroy() {
        OnionCircuits x = new OnionCircuits(1);
        for (int c : WRONG_CIRCUITS) {
            due("3: destroy of circuit " + c, x.destroy(c), BAD_CIRCUIT);
        }
        due("3: destroy of an unbuilt circuit", x.destroy(0), NO_CIRCUIT);
        x.extend(0, 1);
        due("3: destroy without cells", x.destroy(0), 0);
        due("3: destroy twice", x.destroy(0), NO_CIRCUIT);
    }

    private static void destroyCountsCells() {
        OnionCircuits x = withHops(3);
        x.extend(1, 0);
        x.open(1, 1);
        x.send(1, 1, 5);
        for (int stream = 0; stream < 3; stream++) {
            x.open(0, stream);
            for (int i = 0; i < 3; i++) {
                due("3: send", x.send(0, stream, i), i + 1);
                due("3: reply", x.reply(0, stream, i), i + 1);
            }
        }
        x.move(0, 0, FORWARD);
        x.move(0, 2, BACKWARD);
        due("3: destroy with full windows", x.destroy(0), 18);
        due("3: hops", x.hops(0), 0);
        for (int link = 0; link < 3; link++) {
            due("3: cells left forward on " + link, x.waiting(0, link, FORWARD), 0);
            due("3: cells left backward on " + link, x.waiting(0, link, BACKWARD), 0);
        }
        due("3: the other circuit's hops", x.hops(1), 1);
        due("3: the other circuit's cells", x.destroy(1), 1);
    }

    private static void destroyForgets() {
        OnionCircuits x = withStream(1);
        passOn(x, 200);
        x.reply(0, 0, 100);
        x.move(0, 0, BACKWARD);
        passOn(x, 201);
        due("3: cells that arrived are not under way", x.destroy(0), 0);
        due("3: got after destroy", x.got(0, 0, FAR_END), 0);
        due("3: byteGot after destroy", x.byteGot(0, 0, FAR_END, 0), NOTHING);
        due("3: a hop of before is free", x.extend(0, 0), 1);
        due("3: a stream of before is not open", x.send(0, 0, 1), BAD_STREAM);
        due("3: open again", x.open(0, 0), 0);
        due("3: got after opening again", x.got(0, 0, FAR_END), 0);
        due("3: got at the client after opening again", x.got(0, 0, CLIENT), 0);
        due("3: byteGot after opening again", x.byteGot(0, 0, FAR_END, 0), NOTHING);
    }

    private static void destroyEmptiesWindows() {
        OnionCircuits x = withStream(2);
        for (int i = 0; i < 3; i++) {
            x.send(0, 0, i);
            x.reply(0, 0, i);
        }
        x.tamper(0, 0, FORWARD, 1);
        due("3: destroy", x.destroy(0), 6);
        x.extend(0, 3);
        x.open(0, 0);
        due("3: the window forward is new", x.send(0, 0, 77), 1);
        due("3: the window backward is new", x.reply(0, 0, 78), 1);
        due("3: the new cell isn't tampered with", x.move(0, 0, FORWARD), 1);
        due("3: the new cell's byte", x.byteGot(0, 0, FAR_END, 0), 77);
    }

    private static void destroyFreesEveryRelayAndStream() {
        OnionCircuits x = new OnionCircuits(1);
        for (int first = 0; first < 5; first++) {
            for (int i = 0; i < 3; i++) {
                due("3: a relay of before", x.extend(0, (first + i) % 5), i + 1);
            }
            for (int stream = 0; stream < 3; stream++) {
                due("3: a stream of before", x.open(0, stream), 2);
                due("3: its window forward", x.send(0, stream, 1), 1);
                due("3: its window backward", x.reply(0, stream, 1), 1);
            }
            due("3: cells of all streams", x.destroy(0), 6);
        }
    }

    private static void open() {
        OnionCircuits x = new OnionCircuits(1);
        for (int c : WRONG_CIRCUITS) {
            due("4: open on circuit " + c, x.open(c, 0), BAD_CIRCUIT);
        }
        due("4: open on an unbuilt circuit", x.open(1, 0), NO_CIRCUIT);
        due("4: a wrong stream on an unbuilt circuit", x.open(1, 3), NO_CIRCUIT);
        x.extend(1, 0);
        for (int s : WRONG_THIRDS) {
            due("4: open of stream " + s, x.open(1, s), BAD_STREAM);
        }
        due("4: joined at hop 0", x.open(1, 0), 0);
        due("4: opened twice", x.open(1, 0), OPEN);
        x.extend(1, 1);
        due("4: opened twice after extend", x.open(1, 0), OPEN);
        due("4: joined at hop 1", x.open(1, 2), 1);
        x.extend(1, 2);
        due("4: joined at hop 2", x.open(1, 1), 2);
        x.extend(0, 0);
        due("4: the same stream of the other circuit", x.open(0, 0), 0);
        due("4: nothing got at the far end", x.got(1, 1, FAR_END), 0);
        due("4: nothing got at the client", x.got(1, 1, CLIENT), 0);
    }

    private static void refusedOpenKeepsTheStream() {
        OnionCircuits x = withStream(1);
        passOn(x, 3);
        x.extend(0, 1);
        String before = state(x);
        due("4: open of an open stream", x.open(0, 0), OPEN);
        sameState("4: open of an open stream", before, x);
        x.send(0, 0, 4);
        due("4: the stream is still joined at hop 0", x.move(0, 0, FORWARD), 1);
    }

    private static void sendAndReplyRefusals() {
        OnionCircuits x = new OnionCircuits(1);
        for (int c : WRONG_CIRCUITS) {
            due("5: send on circuit " + c, x.send(c, 0, 1), BAD_CIRCUIT);
            due("6: reply on circuit " + c, x.reply(c, 0, 1), BAD_CIRCUIT);
        }
        due("5: send on an unbuilt circuit", x.send(0, 3, 1), NO_CIRCUIT);
        due("6: reply on an unbuilt circuit", x.reply(0, 3, 1), NO_CIRCUIT);
        x.extend(0, 0);
        for (int s : WRONG_THIRDS) {
            due("5: send on stream " + s, x.send(0, s, 1), BAD_STREAM);
            due("6: reply on stream " + s, x.reply(0, s, 1), BAD_STREAM);
        }
        due("5: send on a stream that isn't open", x.send(0, 1, 1), BAD_STREAM);
        due("6: reply on a stream that isn't open", x.reply(0, 1, 1), BAD_STREAM);
        due("5: no cell came of it", x.waiting(0, 0, FORWARD), 0);
        due("6: no cell came of it", x.waiting(0, 0, BACKWARD), 0);
        x.extend(1, 0);
        x.open(1, 1);
        due("5: the other circuit's stream doesn't count", x.send(0, 1, 1), BAD_STREAM);
    }

    private static void send() {
        OnionCircuits x = withStream(3);
        x.open(0, 1);
        due("5: first", x.send(0, 0, 1), 1);
        due("5: second", x.send(0, 0, 2), 2);
        due("5: third", x.send(0, 0, 3), 3);
        due("5: fourth", x.send(0, 0, 4), WINDOW);
        due("5: a refused cell isn't on the link", x.waiting(0, 0, FORWARD), 3);
        due("5: nothing on link 1", x.waiting(0, 1, FORWARD), 0);
        due("5: nothing backward", x.waiting(0, 0, BACKWARD), 0);
        due("5: another stream has its own window", x.send(0, 1, 5), 1);
        due("5: the window backward is apart", x.reply(0, 0, 6), 1);
        x.move(0, 0, FORWARD);
        x.move(0, 1, FORWARD);
        due("5: a cell moved on is still under way", x.send(0, 0, 7), WINDOW);
        due("5: it arrives", x.move(0, 2, FORWARD), 1);
        due("5: there is room again", x.send(0, 0, 8), 3);
    }

    private static void reply() {
        OnionCircuits x = withStream(2);
        x.extend(0, 4);
        x.open(0, 1);
        due("6: first", x.reply(0, 0, 1), 1);
        due("6: second", x.reply(0, 0, 2), 2);
        due("6: third", x.reply(0, 0, 3), 3);
        due("6: fourth", x.reply(0, 0, 4), WINDOW);
        due("6: on the link to the stream's relay", x.waiting(0, 1, BACKWARD), 3);
        due("6: not on the link to the exit", x.waiting(0, 2, BACKWARD), 0);
        due("6: another stream has its own window", x.reply(0, 1, 5), 1);
        due("6: joined at the exit", x.waiting(0, 2, BACKWARD), 1);
        due("6: the window forward is apart", x.send(0, 0, 6), 1);
        due("6: moved on", x.move(0, 1, BACKWARD), 0);
        due("6: a cell moved on is still under way", x.reply(0, 0, 7), WINDOW);
        due("6: it arrives", x.move(0, 0, BACKWARD), 1);
        due("6: there is room again", x.reply(0, 0, 8), 3);
    }

    private static void bytesAreMasked() {
        int[] sent = {0, 255, 256, 511, -1, -256, 0x7fffff80, Integer.MIN_VALUE};
        int[] arrives = {0, 255, 0, 255, 255, 0, 128, 0};
        for (int i = 0; i < sent.length; i++) {
            OnionCircuits x = withStream(1);
            due("5: send", x.send(0, 0, sent[i]), 1);
            due("6: reply", x.reply(0, 0, sent[i]), 1);
            due("5: move of " + sent[i], x.move(0, 0, FORWARD), 1);
            due("6: move of " + sent[i], x.move(0, 0, BACKWARD), 1);
            due("5: byte " + sent[i], x.byteGot(0, 0, FAR_END, 0), arrives[i]);
            due("6: byte " + sent[i], x.byteGot(0, 0, CLIENT, 0), arrives[i]);
        }
    }

    private static void moveAndTamperRefusals() {
        OnionCircuits x = new OnionCircuits(1);
        int[] bits = {1, 0, 256};
        for (int side = 0; side < 2; side++) {
            boolean forward = side == 0;
            for (int c : WRONG_CIRCUITS) {
                due("7: move on circuit " + c, x.move(c, 0, forward), BAD_CIRCUIT);
                for (int b : bits) {
                    due("8: tamper on circuit " + c, x.tamper(c, 0, forward, b), BAD_CIRCUIT);
                }
            }
            due("7: move on an unbuilt circuit", x.move(0, 3, forward), NO_CIRCUIT);
            for (int b : bits) {
                due("8: tamper on an unbuilt circuit", x.tamper(0, 3, forward, b), NO_CIRCUIT);
            }
        }
        x.extend(0, 0);
        x.open(0, 0);
        x.send(0, 0, 1);
        x.extend(1, 0);
        x.open(1, 0);
        x.send(1, 0, 1);
        String before = state(x);
        for (int l : WRONG_THIRDS) {
            due("7: move on link " + l, x.move(0, l, FORWARD), NOTHING);
            for (int b : bits) {
                due("8: tamper on link " + l, x.tamper(0, l, FORWARD, b), NOTHING);
            }
        }
        due("7: no cell backward", x.move(0, 0, BACKWARD), NOTHING);
        due("7: no cell on link 1", x.move(0, 1, FORWARD), NOTHING);
        for (int b : bits) {
            due("8: no cell backward", x.tamper(0, 0, BACKWARD, b), NOTHING);
            due("8: no cell on link 2", x.tamper(0, 2, FORWARD, b), NOTHING);
        }
        sameState("7: refused calls", before, x);
        due("7: the cell is as it was", x.move(0, 0, FORWARD), 1);
        due("7: the other circuit's cell too", x.move(1, 0, FORWARD), 1);
    }

    private static void moveForward() {
        for (int hops = 1; hops <= 3; hops++) {
            OnionCircuits x = withStream(hops);
            x.send(0, 0, 42);
            for (int link = 0; link < hops - 1; link++) {
                due("7: on from link " + link, x.move(0, link, FORWARD), 0);
                due("7: off link " + link, x.waiting(0, link, FORWARD), 0);
                due("7: on the next link", x.waiting(0, link + 1, FORWARD), 1);
                due("7: not got yet", x.got(0, 0, FAR_END), 0);
            }
            due("7: arrives off link " + (hops - 1), x.move(0, hops - 1, FORWARD), 1);
            due("7: got at the far end", x.got(0, 0, FAR_END), 1);
            due("7: not got at the client", x.got(0, 0, CLIENT), 0);
            due("7: the byte", x.byteGot(0, 0, FAR_END, 0), 42);
            due("7: no cell left", x.destroy(0), 0);
        }
    }

    private static void moveBackward() {
        for (int hops = 1; hops <= 3; hops++) {
            OnionCircuits x = withStream(hops);
            x.reply(0, 0, 43);
            for (int link = hops - 1; link > 0; link--) {
                due("7: back from link " + link, x.move(0, link, BACKWARD), 0);
                due("7: off link " + link, x.waiting(0, link, BACKWARD), 0);
                due("7: on the link before", x.waiting(0, link - 1, BACKWARD), 1);
                due("7: not got yet", x.got(0, 0, CLIENT), 0);
            }
            due("7: arrives off link 0", x.move(0, 0, BACKWARD), 1);
            due("7: got at the client", x.got(0, 0, CLIENT), 1);
            due("7: not got at the far end", x.got(0, 0, FAR_END), 0);
            due("7: the byte", x.byteGot(0, 0, CLIENT, 0), 43);
            due("7: no cell left", x.destroy(0), 0);
        }
    }

    private static void streamsAtDifferentHops() {
        OnionCircuits x = withStream(1);
        x.extend(0, 1);
        x.open(0, 1);
        x.extend(0, 2);
        x.open(0, 2);
        for (int stream = 2; stream >= 0; stream--) {
            x.send(0, stream, 10 + stream);
        }
        due("7: stream 2 goes on from link 0", x.move(0, 0, FORWARD), 0);
        due("7: stream 1 goes on from link 0", x.move(0, 0, FORWARD), 0);
        due("7: stream 0 leaves at hop 0", x.move(0, 0, FORWARD), 1);
        due("7: stream 2 goes on from link 1", x.move(0, 1, FORWARD), 0);
        due("7: stream 1 leaves at hop 1", x.move(0, 1, FORWARD), 1);
        due("7: stream 2 leaves at hop 2", x.move(0, 2, FORWARD), 1);
        for (int stream = 0; stream < 3; stream++) {
            due("7: byte of stream " + stream, x.byteGot(0, stream, FAR_END, 0), 10 + stream);
            due("7: got of stream " + stream, x.got(0, stream, FAR_END), 1);
        }
    }

    private static void tamperedCellTakesTheCircuitDown() {
        for (int side = 0; side < 2; side++) {
            boolean forward = side == 0;
            OnionCircuits x = withStream(2);
            x.extend(1, 0);
            x.open(1, 0);
            x.send(1, 0, 9);
            passOn(x, 1);
            x.move(0, 1, FORWARD);
            x.send(0, 0, 2);
            x.reply(0, 0, 3);
            int from = forward ? 0 : 1;
            due("8: tamper", x.tamper(0, from, forward, 128), 0);
            due("8: it goes on unseen", x.move(0, from, forward), 0);
            due("8: the circuit still stands", x.hops(0), 2);
            due("8: known at its end", x.move(0, 1 - from, forward), 2);
            due("8: no hops", x.hops(0), 0);
            due("8: nothing got", x.got(0, 0, FAR_END), 0);
            due("8: no cells forward", x.waiting(0, 0, FORWARD), 0);
            due("8: no cells backward", x.waiting(0, 1, BACKWARD), 0);
            due("8: taken down", x.destroy(0), NO_CIRCUIT);
            due("8: the other circuit stands", x.move(1, 0, FORWARD), 1);
            due("8: it can be built again", x.extend(0, 1), 1);
            due("8: no stream is open", x.send(0, 0, 1), BAD_STREAM);
            due("8: a stream can be opened", x.open(0, 0), 0);
            due("8: the window is empty", x.send(0, 0, 1), 1);
            due("8: the new cell isn't tampered with", x.move(0, 0, FORWARD), 1);
            due("8: only the new byte is got", x.got(0, 0, FAR_END), 1);
        }
    }

    private static void tamperedBitsTogether() {
        int[][] turned = {{1}, {0}, {256}, {-256}, {-1}, {5, 5}, {5, 261}, {5, 4}, {1, 2, 3}, {1, 2, 4},
            {7, 0}, {0, 0}, {255, 128, 127}, {9, 9, 9}};
        int[] known = {2, 1, 1, 1, 2, 1, 1, 2, 1, 2, 2, 1, 1, 2};
        for (int i = 0; i < turned.length; i++) {
            OnionCircuits x = withStream(1);
            x.send(0, 0, 77);
            for (int bits : turned[i]) {
                due("8: tamper with " + bits, x.tamper(0, 0, FORWARD, bits), 0);
            }
            due("8: tampering row " + i, x.move(0, 0, FORWARD), known[i]);
            due("8: the byte of row " + i, x.byteGot(0, 0, FAR_END, 0), known[i] == 1 ? 77 : NOTHING);
        }
    }

    private static void tamperingIsUndoneOnAnotherLink() {
        OnionCircuits x = withStream(3);
        x.send(0, 0, 50);
        x.tamper(0, 0, FORWARD, 6);
        x.move(0, 0, FORWARD);
        x.tamper(0, 1, FORWARD, 3);
        x.move(0, 1, FORWARD);
        x.tamper(0, 2, FORWARD, 5);
        due("8: undone over three links", x.move(0, 2, FORWARD), 1);
        due("8: the byte is whole", x.byteGot(0, 0, FAR_END, 0), 50);
    }

    private static void tamperTouchesTheOldestAlone() {
        OnionCircuits x = withStream(1);
        x.send(0, 0, 1);
        x.send(0, 0, 2);
        x.move(0, 0, FORWARD);
        x.send(0, 0, 3);
        x.tamper(0, 0, FORWARD, 4);
        x.reply(0, 0, 9);
        due("8: the other direction is whole", x.move(0, 0, BACKWARD), 1);
        due("8: the oldest cell was tampered with", x.move(0, 0, FORWARD), 2);

        OnionCircuits y = withStream(2);
        y.send(0, 0, 1);
        y.send(0, 0, 2);
        y.move(0, 0, FORWARD);
        y.tamper(0, 0, FORWARD, 4);
        due("8: the older cell was ahead", y.move(0, 1, FORWARD), 1);
        due("8: the younger one follows", y.move(0, 0, FORWARD), 0);
        due("8: the younger one was tampered with", y.move(0, 1, FORWARD), 2);

        OnionCircuits z = withStream(2);
        z.send(0, 0, 1);
        z.send(0, 0, 2);
        z.tamper(0, 0, FORWARD, 4);
        z.move(0, 0, FORWARD);
        z.tamper(0, 1, FORWARD, 4);
        due("8: the first one is whole again", z.move(0, 1, FORWARD), 1);
        due("8: the one behind it follows", z.move(0, 0, FORWARD), 0);
        due("8: the one behind it was never touched", z.move(0, 1, FORWARD), 1);
    }

    private static void got() {
        OnionCircuits x = new OnionCircuits(1);
        for (int c : WRONG_CIRCUITS) {
            due("9: got on circuit " + c, x.got(c, 0, FAR_END), 0);
            due("9: got on circuit " + c, x.got(c, 0, CLIENT), 0);
        }
        due("9: an unbuilt circuit", x.got(0, 0, FAR_END), 0);
        x.extend(0, 0);
        due("9: a stream that isn't open", x.got(0, 0, FAR_END), 0);
        x.open(0, 0);
        for (int s : WRONG_THIRDS) {
            due("9: got on stream " + s, x.got(0, s, FAR_END), 0);
            due("9: got on stream " + s, x.got(0, s, CLIENT), 0);
        }
        for (int i = 1; i <= 100; i++) {
            passOn(x, i);
            due("9: got at the far end", x.got(0, 0, FAR_END), i);
        }
        due("9: the client's side is apart", x.got(0, 0, CLIENT), 0);
        x.reply(0, 0, 1);
        due("9: a cell under way isn't got", x.got(0, 0, CLIENT), 0);
        x.move(0, 0, BACKWARD);
        due("9: got at the client", x.got(0, 0, CLIENT), 1);
        due("9: the far end is as it was", x.got(0, 0, FAR_END), 100);
    }

    private static void byteGot() {
        OnionCircuits x = new OnionCircuits(1);
        for (int c : WRONG_CIRCUITS) {
            due("10: byteGot on circuit " + c, x.byteGot(c, 0, FAR_END, 0), NOTHING);
            due("10: byteGot on circuit " + c, x.byteGot(c, 0, CLIENT, 0), NOTHING);
        }
        due("10: an unbuilt circuit", x.byteGot(0, 0, FAR_END, 0), NOTHING);
        x.extend(0, 0);
        due("10: a stream that isn't open", x.byteGot(0, 0, FAR_END, 0), NOTHING);
        x.open(0, 0);
        for (int s : WRONG_THIRDS) {
            due("10: byteGot on stream " + s, x.byteGot(0, s, FAR_END, 0), NOTHING);
        }
        for (int count = 1; count <= 20; count++) {
            passOn(x, 100 + count);
            for (int back = 0; back < 8; back++) {
                int want = back < count ? 100 + count - back : NOTHING;
                due("10: back " + back + " of " + count, x.byteGot(0, 0, FAR_END, back), want);
            }
            due("10: the client's side", x.byteGot(0, 0, CLIENT, 0), NOTHING);
        }
        int[] wrongBacks = {-1, 8, 9, 19, 20, Integer.MIN_VALUE, Integer.MAX_VALUE};
        for (int back : wrongBacks) {
            due("10: back " + back, x.byteGot(0, 0, FAR_END, back), NOTHING);
        }
    }

    private static void waiting() {
        OnionCircuits x = new OnionCircuits(1);
        for (int c : WRONG_CIRCUITS) {
            due("11: waiting on circuit " + c, x.waiting(c, 0, FORWARD), 0);
            due("11: waiting on circuit " + c, x.waiting(c, 0, BACKWARD), 0);
        }
        due("11: an unbuilt circuit", x.waiting(0, 0, FORWARD), 0);
        for (int relay = 0; relay < 3; relay++) {
            x.extend(0, relay);
        }
        int cells = 0;
        for (int stream = 0; stream < 3; stream++) {
            x.open(0, stream);
            for (int i = 0; i < 3; i++) {
                x.send(0, stream, i);
                x.reply(0, stream, i);
                cells++;
                due("11: forward", x.waiting(0, 0, FORWARD), cells);
                due("11: backward", x.waiting(0, 2, BACKWARD), cells);
            }
        }
        for (int link = 0; link < 2; link++) {
            for (int i = 1; i <= 9; i++) {
                x.move(0, link, FORWARD);
                due("11: left behind", x.waiting(0, link, FORWARD), 9 - i);
                due("11: moved on", x.waiting(0, link + 1, FORWARD), i);
            }
        }
        due("11: the other direction is apart", x.waiting(0, 2, BACKWARD), 9);
        due("11: the other circuit is apart", x.waiting(1, 2, FORWARD), 0);
        for (int l : WRONG_THIRDS) {
            due("11: waiting on link " + l, x.waiting(0, l, FORWARD), 0);
            due("11: waiting on link " + l, x.waiting(0, l, BACKWARD), 0);
        }
    }

    private static void hops() {
        OnionCircuits x = new OnionCircuits(1);
        for (int c : WRONG_CIRCUITS) {
            due("12: hops of circuit " + c, x.hops(c), BAD_CIRCUIT);
        }
        for (int i = 0; i < 3; i++) {
            due("12: hops", x.hops(1), i);
            x.extend(1, 4 - i);
        }
        due("12: hops of a full circuit", x.hops(1), 3);
        due("12: hops of the other circuit", x.hops(0), 0);
        x.destroy(1);
        due("12: hops after destroy", x.hops(1), 0);
    }

    private static void orderOfRefusals() {
        OnionCircuits x = withHops(3);
        for (int r : WRONG_RELAYS) {
            due("13: a wrong relay on a full circuit", x.extend(0, r), BAD_RELAY);
        }
        due("13: a hop's relay on a full circuit", x.extend(0, 1), BAD_RELAY);
        due("13: another relay on a full circuit", x.extend(0, 3), FULL);
        due("13: tamper with no bits, no cell", x.tamper(0, 0, FORWARD, 0), NOTHING);
        due("13: tamper with no bits, wrong link", x.tamper(0, 3, FORWARD, 0), NOTHING);
        due("13: tamper with no bits, no circuit", x.tamper(1, 0, FORWARD, 0), NO_CIRCUIT);
        due("13: tamper with no bits, wrong circuit", x.tamper(2, 0, FORWARD, 0), BAD_CIRCUIT);
    }

    private static void oldestCameOntoTheLinkFirst() {
        OnionCircuits x = withHops(1);
        x.open(0, 2);
        x.extend(0, 1);
        x.open(0, 0);
        // Stream 0's cell is sent first, but stream 2's is on link 0 before it.
        x.reply(0, 0, 1);
        x.reply(0, 2, 2);
        x.move(0, 1, BACKWARD);
        due("13: first off link 0", x.move(0, 0, BACKWARD), 1);
        due("13: it is stream 2's", x.got(0, 2, CLIENT), 1);
        due("13: it isn't stream 0's", x.got(0, 0, CLIENT), 0);
        due("13: then the other", x.move(0, 0, BACKWARD), 1);
        due("13: it is stream 0's", x.byteGot(0, 0, CLIENT, 0), 1);
    }

    private static void cellsKeepTheirOrder() {
        OnionCircuits x = withStream(2);
        x.open(0, 1);
        int[] streams = {1, 0, 0, 1, 0, 1};
        for (int i = 0; i < 6; i++) {
            x.send(0, streams[i], 60 + i);
        }
        for (int i = 0; i < 6; i++) {
            x.move(0, 0, FORWARD);
        }
        for (int i = 0; i < 6; i++) {
            due("13: arrives", x.move(0, 1, FORWARD), 1);
            due("13: in order", x.byteGot(0, streams[i], FAR_END, 0), 60 + i);
        }
    }

    private static void readingChangesNothing() {
        OnionCircuits x = withStream(2);
        passOn(x, 1);
        x.move(0, 1, FORWARD);
        x.reply(0, 0, 2);
        String before = state(x);
        sameState("9 to 12: reading", before, x);
        due("9 to 12: the cell is still there", x.destroy(0), 1);
    }

    public static void main(String[] args) {
        newObject();
        objectsAreApart();
        extend();
        everyRelay();
        destroy();
        destroyCountsCells();
        destroyForgets();
        destroyEmptiesWindows();
        destroyFreesEveryRelayAndStream();
        open();
        refusedOpenKeepsTheStream();
        sendAndReplyRefusals();
        send();
        reply();
        bytesAreMasked();
        moveAndTamperRefusals();
        moveForward();
        moveBackward();
        streamsAtDifferentHops();
        tamperedCellTakesTheCircuitDown();
        tamperedBitsTogether();
        tamperingIsUndoneOnAnotherLink();
        tamperTouchesTheOldestAlone();
        got();
        byteGot();
        waiting();
        hops();
        orderOfRefusals();
        oldestCameOntoTheLinkFirst();
        cellsKeepTheirOrder();
        readingChangesNothing();
        System.out.println(wrong == 0 ? "all answers are as due" : wrong + " answers are not as due");
        if (wrong != 0) {
            System.exit(1);
        }
    }
}
