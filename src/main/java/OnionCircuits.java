public final class OnionCircuits {
    public static final int BAD_CIRCUIT = -1;
    public static final int BAD_RELAY = -2;
    public static final int BAD_STREAM = -3;
    public static final int FULL = -4;
    public static final int NO_CIRCUIT = -5;
    public static final int WINDOW = -6;
    public static final int NOTHING = -7;
    public static final int OPEN = -8;

    private static final int NOT_REFUSED = 0;

    private static final int MOVED_ON = 0;
    private static final int ARRIVED = 1;
    private static final int TAKEN_DOWN = 2;

    private static final int CIRCUITS = 2;
    private static final int RELAYS = 5;
    private static final int LINKS = 3;
    private static final int STREAMS = 3;
    private static final int DIRECTIONS = 2;
    private static final int CELLS_PER_WINDOW = 3;
    private static final int BYTES_KEPT = 8;
    private static final int BYTE_MASK = 255;

    // Three streams with three cells each: the windows keep a queue from ever holding more.
    private static final int QUEUE_ROOM = STREAMS * CELLS_PER_WINDOW;

    private static final int RELAY_PLACES = CIRCUITS * RELAYS;
    private static final int STREAM_PLACES = CIRCUITS * STREAMS;
    private static final int WAYS = STREAM_PLACES * DIRECTIONS;
    private static final int GOT_PLACES = WAYS * BYTES_KEPT;
    private static final int QUEUES = CIRCUITS * LINKS * DIRECTIONS;
    private static final int CELL_PLACES = QUEUES * QUEUE_ROOM;

    private final int[] hopCount = new int[CIRCUITS];
    // No call asks for the order of the relays, so which of them are hops is all that is kept.
    private final boolean[] relayIsHop = new boolean[RELAY_PLACES];

    private final boolean[] streamOpen = new boolean[STREAM_PLACES];
    private final int[] streamHop = new int[STREAM_PLACES];

    // A way is one stream in one direction: forward leads to the far end, backward to the client.
    private final int[] underWay = new int[WAYS];
    private final int[] gotCount = new int[WAYS];
    private final int[] gotByte = new int[GOT_PLACES];

    // A queue is one link in one direction; its oldest cell stands at its first place.
    private final int[] queueLength = new int[QUEUES];
    private final int[] cellStream = new int[CELL_PLACES];
    private final int[] cellByte = new int[CELL_PLACES];
    private final int[] cellTurnedBits = new int[CELL_PLACES];

    // The layers that keys would make can't be seen, so the seed has nothing to act on.
    public OnionCircuits(int seed) {
    }

    public int extend(int circuit, int relay) {
        if (!isCircuit(circuit)) {
            return BAD_CIRCUIT;
        }
        if (relay < 0 || relay >= RELAYS) {
            return BAD_RELAY;
        }
        int place = circuit * RELAYS + relay;
        if (relayIsHop[place]) {
            return BAD_RELAY;
        }
        if (hopCount[circuit] >= LINKS) {
            return FULL;
        }
        relayIsHop[place] = true;
        hopCount[circuit]++;
        return hopCount[circuit];
    }

    public int destroy(int circuit) {
        int refusal = circuitRefusal(circuit);
        if (refusal != NOT_REFUSED) {
            return refusal;
        }
        int lost = cellsUnderWay(circuit);
        takeDown(circuit);
        return lost;
    }

    public int open(int circuit, int stream) {
        int refusal = circuitRefusal(circuit);
        if (refusal != NOT_REFUSED) {
            return refusal;
        }
        if (!isStream(stream)) {
            return BAD_STREAM;
        }
        int place = streamPlace(circuit, stream);
        if (streamOpen[place]) {
            return OPEN;
        }
        streamOpen[place] = true;
        streamHop[place] = hopCount[circuit] - 1;
        return streamHop[place];
    }

    public int send(int circuit, int stream, int b) {
        return launch(circuit, stream, b, true);
    }

    public int reply(int circuit, int stream, int b) {
        return launch(circuit, stream, b, false);
    }

    public int move(int circuit, int link, boolean forward) {
        int refusal = cellRefusal(circuit, link, forward);
        if (refusal != NOT_REFUSED) {
            return refusal;
        }
        int queue = queueOf(circuit, link, forward);
        int oldest = queue * QUEUE_ROOM;
        int stream = cellStream[oldest];
        int value = cellByte[oldest];
        int turnedBits = cellTurnedBits[oldest];
        removeOldest(queue);
        if (link != lastLink(circuit, stream, forward)) {
            int nextQueue = queueOf(circuit, forward ? link + 1 : link - 1, forward);
            append(nextQueue, stream, value, turnedBits);
            return MOVED_ON;
        }
        if (turnedBits != 0) {
            takeDown(circuit);
            return TAKEN_DOWN;
        }
        int way = wayOf(circuit, stream, forward);
        deliver(way, value);
        return ARRIVED;
    }

    public int tamper(int circuit, int link, boolean forward, int bits) {
        int refusal = cellRefusal(circuit, link, forward);
        if (refusal != NOT_REFUSED) {
            return refusal;
        }
        int oldest = queueOf(circuit, link, forward) * QUEUE_ROOM;
        cellTurnedBits[oldest] ^= bits & BYTE_MASK;
        return 0;
    }

    public int got(int circuit, int stream, boolean atFarEnd) {
        if (!isOpenStream(circuit, stream)) {
            return 0;
        }
        return gotCount[wayOf(circuit, stream, atFarEnd)];
    }

    public int byteGot(int circuit, int stream, boolean atFarEnd, int back) {
        if (!isOpenStream(circuit, stream)) {
            return NOTHING;
        }
        int way = wayOf(circuit, stream, atFarEnd);
        if (back < 0 || back >= BYTES_KEPT || back >= gotCount[way]) {
            return NOTHING;
        }
        return gotByte[gotPlace(way, gotCount[way] - 1 - back)];
    }

    public int waiting(int circuit, int link, boolean forward) {
        if (!isCircuit(circuit) || !isLink(link)) {
            return 0;
        }
        return queueLength[queueOf(circuit, link, forward)];
    }

    public int hops(int circuit) {
        return isCircuit(circuit) ? hopCount[circuit] : BAD_CIRCUIT;
    }

    private static boolean isCircuit(int circuit) {
        return circuit >= 0 && circuit < CIRCUITS;
    }

    private static boolean isStream(int stream) {
        return stream >= 0 && stream < STREAMS;
    }

    private static boolean isLink(int link) {
        return link >= 0 && link < LINKS;
    }

    private boolean isOpenStream(int circuit, int stream) {
        return isCircuit(circuit) && isStream(stream) && streamOpen[streamPlace(circuit, stream)];
    }

    private int circuitRefusal(int circuit) {
        if (!isCircuit(circuit)) {
            return BAD_CIRCUIT;
        }
        return hopCount[circuit] == 0 ? NO_CIRCUIT : NOT_REFUSED;
    }

    private int cellRefusal(int circuit, int link, boolean forward) {
        int refusal = circuitRefusal(circuit);
        if (refusal != NOT_REFUSED) {
            return refusal;
        }
        if (!isLink(link)) {
            return NOTHING;
        }
        return queueLength[queueOf(circuit, link, forward)] == 0 ? NOTHING : NOT_REFUSED;
    }

    private static int streamPlace(int circuit, int stream) {
        return circuit * STREAMS + stream;
    }

    private static int wayOf(int circuit, int stream, boolean forward) {
        return streamPlace(circuit, stream) * DIRECTIONS + (forward ? 0 : 1);
    }

    private static int queueOf(int circuit, int link, boolean forward) {
        return (circuit * LINKS + link) * DIRECTIONS + (forward ? 0 : 1);
    }

    // Only the last eight bytes can be asked for, so the ninth takes the place of the first.
    private static int gotPlace(int way, int number) {
        return way * BYTES_KEPT + (number & (BYTES_KEPT - 1));
    }

    private int lastLink(int circuit, int stream, boolean forward) {
        return forward ? streamHop[streamPlace(circuit, stream)] : 0;
    }

    private int firstLink(int circuit, int stream, boolean forward) {
        return lastLink(circuit, stream, !forward);
    }

    private int launch(int circuit, int stream, int b, boolean forward) {
        int refusal = circuitRefusal(circuit);
        if (refusal != NOT_REFUSED) {
            return refusal;
        }
        if (!isOpenStream(circuit, stream)) {
            return BAD_STREAM;
        }
        int way = wayOf(circuit, stream, forward);
        if (underWay[way] >= CELLS_PER_WINDOW) {
            return WINDOW;
        }
        int link = firstLink(circuit, stream, forward);
        int queue = queueOf(circuit, link, forward);
        append(queue, stream, b & BYTE_MASK, 0);
        underWay[way]++;
        return underWay[way];
    }

    private void append(int queue, int stream, int value, int turnedBits) {
        int place = queue * QUEUE_ROOM + queueLength[queue];
        cellStream[place] = stream;
        cellByte[place] = value;
        cellTurnedBits[place] = turnedBits;
        queueLength[queue]++;
    }

    private void removeOldest(int queue) {
        int first = queue * QUEUE_ROOM;
        int last = first + queueLength[queue] - 1;
        for (int place = first; place < last; place++) {
            cellStream[place] = cellStream[place + 1];
            cellByte[place] = cellByte[place + 1];
            cellTurnedBits[place] = cellTurnedBits[place + 1];
        }
        queueLength[queue]--;
    }

    private void deliver(int way, int value) {
        gotByte[gotPlace(way, gotCount[way])] = value;
        gotCount[way]++;
        underWay[way]--;
    }

    private int cellsUnderWay(int circuit) {
        int cells = 0;
        int firstWay = wayOf(circuit, 0, true);
        for (int i = 0; i < STREAMS * DIRECTIONS; i++) {
            cells += underWay[firstWay + i];
        }
        return cells;
    }

    private void takeDown(int circuit) {
        hopCount[circuit] = 0;
        for (int relay = 0; relay < RELAYS; relay++) {
            relayIsHop[circuit * RELAYS + relay] = false;
        }
        for (int stream = 0; stream < STREAMS; stream++) {
            streamOpen[streamPlace(circuit, stream)] = false;
        }
        int firstWay = wayOf(circuit, 0, true);
        for (int i = 0; i < STREAMS * DIRECTIONS; i++) {
            underWay[firstWay + i] = 0;
            gotCount[firstWay + i] = 0;
        }
        int firstQueue = queueOf(circuit, 0, true);
        for (int i = 0; i < LINKS * DIRECTIONS; i++) {
            queueLength[firstQueue + i] = 0;
        }
    }
}
