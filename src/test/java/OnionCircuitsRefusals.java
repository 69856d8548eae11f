import java.util.ArrayList;
import java.util.LinkedHashMap;
import java.util.List;
import java.util.Map;
import java.util.function.Consumer;
import java.util.function.ToIntFunction;

// "Refused calls change nothing", and "The calls below change nothing": two objects are brought to the same
// state, one of them gets the call as well, and then both must give the same answers to the same later calls.
public final class OnionCircuitsRefusals {
    private static final int BAD_CIRCUIT = -1;
    private static final int BAD_RELAY = -2;
    private static final int BAD_STREAM = -3;
    private static final int FULL = -4;
    private static final int NO_CIRCUIT = -5;
    private static final int WINDOW = -6;
    private static final int NOTHING = -7;
    private static final int OPEN = -8;

    private static final boolean FORWARD = true;
    private static final boolean BACKWARD = false;
    private static final boolean[] BOTH = {true, false};

    private static final int MIN = Integer.MIN_VALUE;
    private static final int MAX = Integer.MAX_VALUE;
    private static final int[] NOT_A_CIRCUIT = {-1, 2, MIN, MAX};
    private static final int[] NOT_A_RELAY = {-1, 5, MIN, MAX};
    private static final int[] NOT_A_THIRD = {-1, 3, MIN, MAX};
    private static final int[] CIRCUITS = {0, 1, -1, 2, MIN, MAX};
    private static final int[] RELAYS = {0, 1, 2, 3, 4, -1, 5, MIN, MAX};
    private static final int[] THIRDS = {0, 1, 2, -1, 3, MIN, MAX};
    private static final int[] BYTES = {0, 200, -1};
    private static final int[] BITS = {0, 1, 255, 256, -1};
    private static final int[] BACKS = {0, 1, 7, -1, 8, MIN, MAX};

    // A refusal that adds up, or that comes only once, would show when the call is made again.
    private static final int TIMES = 3;
    private static final int COMPLAINTS_SHOWN = 30;

    private static final Map<String, Consumer<OnionCircuits>> SCENES = new LinkedHashMap<>();
    private static final List<List<ToIntFunction<OnionCircuits>>> LATER_CALLS = new ArrayList<>();

    private static int pairs = 0;
    private static int wrong = 0;

    private static void complain(String what) {
        wrong++;
        if (wrong <= COMPLAINTS_SHOWN) {
            System.out.println(what);
        }
    }

    // ---- Scenes

    private static void oneHop(OnionCircuits x, int c) {
        x.extend(c, 2);
        x.open(c, 1);
        for (int i = 0; i < 3; i++) {
            x.send(c, 1, 11 + i);
            x.move(c, 0, FORWARD);
        }
        x.send(c, 1, 14);
        x.reply(c, 1, 15);
        x.reply(c, 1, 16);
    }

    // Three hops; stream 0 joined at hop 0 with its window full forward, stream 1 joined at hop 1 with its
    // window full backward, stream 2 not open; more than eight bytes got; cells on most links.
    private static void busy(OnionCircuits x, int c) {
        x.extend(c, 3);
        x.open(c, 0);
        for (int i = 0; i < 10; i++) {
            x.send(c, 0, 100 * c + i);
            x.move(c, 0, FORWARD);
        }
        x.extend(c, 0);
        x.open(c, 1);
        for (int i = 0; i < 2; i++) {
            x.reply(c, 1, 100 * c + 20 + i);
            x.move(c, 1, BACKWARD);
            x.move(c, 0, BACKWARD);
        }
        x.extend(c, 4);
        x.send(c, 1, 30);
        x.move(c, 0, FORWARD);
        for (int i = 0; i < 3; i++) {
            x.send(c, 0, 31 + i);
            x.reply(c, 1, 41 + i);
        }
        x.move(c, 1, BACKWARD);
        x.reply(c, 0, 51);
        x.send(c, 1, 34);
    }

    // All windows full at the exit of three hops.
    private static void full(OnionCircuits x, int c) {
        for (int relay = 0; relay < 3; relay++) {
            x.extend(c, relay + c);
        }
        for (int stream = 0; stream < 3; stream++) {
            x.open(c, stream);
            for (int i = 0; i < 3; i++) {
                x.send(c, stream, 60 + 3 * stream + i);
                x.reply(c, stream, 80 + 3 * stream + i);
            }
        }
        x.move(c, 0, FORWARD);
        x.move(c, 2, BACKWARD);
    }

    private static void tamperEverywhere(OnionCircuits x, int c) {
        for (int link = 0; link < 3; link++) {
            x.tamper(c, link, FORWARD, 1);
            x.tamper(c, link, BACKWARD, 255);
        }
    }

    private static void setScenes() {
        SCENES.put("a new object", x -> { });
        SCENES.put("one hop", x -> oneHop(x, 0));
        SCENES.put("one hop on circuit 1", x -> oneHop(x, 1));
        SCENES.put("busy", x -> {
            busy(x, 0);
            busy(x, 1);
        });
        SCENES.put("busy, circuit 1 unbuilt", x -> busy(x, 0));
        SCENES.put("busy, circuit 0 unbuilt", x -> busy(x, 1));
        SCENES.put("busy and tampered with", x -> {
            busy(x, 0);
            busy(x, 1);
            tamperEverywhere(x, 0);
            tamperEverywhere(x, 1);
        });
        SCENES.put("full", x -> {
            full(x, 0);
            full(x, 1);
        });
        SCENES.put("destroyed", x -> {
            busy(x, 0);
            full(x, 1);
            x.destroy(0);
            x.destroy(1);
        });
        SCENES.put("destroyed and built again", x -> {
            busy(x, 0);
            x.destroy(0);
            x.extend(0, 1);
            full(x, 1);
        });
    }

    // ---- Later calls: between them they show all of the state

    private static void readAll(List<ToIntFunction<OnionCircuits>> calls) {
        for (int circuit = 0; circuit < 2; circuit++) {
            int c = circuit;
            calls.add(x -> x.hops(c));
            for (int third = 0; third < 3; third++) {
                int i = third;
                for (boolean side : BOTH) {
                    calls.add(x -> x.waiting(c, i, side));
                    calls.add(x -> x.got(c, i, side));
                    for (int b = 0; b < 8; b++) {
                        int back = b;
                        calls.add(x -> x.byteGot(c, i, side, back));
                    }
                }
            }
        }
    }

    private static void moveAll(List<ToIntFunction<OnionCircuits>> calls) {
        for (int circuit = 0; circuit < 2; circuit++) {
            int c = circuit;
            for (int step = 0; step < 3; step++) {
                int i = step;
                for (int times = 0; times < 10; times++) {
                    calls.add(x -> x.move(c, i, FORWARD));
                    calls.add(x -> x.move(c, 2 - i, BACKWARD));
                }
            }
        }
        readAll(calls);
    }

    private static void destroyAll(List<ToIntFunction<OnionCircuits>> calls) {
        for (int circuit = 0; circuit < 2; circuit++) {
            int c = circuit;
            calls.add(x -> x.destroy(c));
            calls.add(x -> x.extend(c, 0));
            for (int third = 0; third < 3; third++) {
                int i = third;
                calls.add(x -> x.open(c, i));
                calls.add(x -> x.got(c, i, true));
                calls.add(x -> x.got(c, i, false));
                calls.add(x -> x.send(c, i, 1));
                calls.add(x -> x.reply(c, i, 1));
            }
        }
    }

    private static void extendAll(List<ToIntFunction<OnionCircuits>> calls) {
        for (int circuit = 0; circuit < 2; circuit++) {
            int c = circuit;
            for (int r = 0; r < 5; r++) {
                int relay = r;
                calls.add(x -> x.extend(c, relay));
            }
            calls.add(x -> x.hops(c));
        }
    }

    // Where the cells then are tells at which hop each stream is joined.
    private static void openAndFillAll(List<ToIntFunction<OnionCircuits>> calls) {
        for (int circuit = 0; circuit < 2; circuit++) {
            int c = circuit;
            for (int third = 0; third < 3; third++) {
                int i = third;
                calls.add(x -> x.open(c, i));
                for (int times = 0; times < 4; times++) {
                    calls.add(x -> x.send(c, i, 5));
                    calls.add(x -> x.reply(c, i, 6));
                    calls.add(x -> x.waiting(c, 0, BACKWARD));
                    calls.add(x -> x.waiting(c, 1, BACKWARD));
                    calls.add(x -> x.waiting(c, 2, BACKWARD));
                }
            }
        }
        moveAll(calls);
    }

    // On a circuit that wasn't built, nothing shows before it is.
    private static void extendOpenAndFillAll(List<ToIntFunction<OnionCircuits>> calls) {
        extendAll(calls);
        openAndFillAll(calls);
    }

    // Undoes the tampering of tamperEverywhere, so that the circuits live on to the last cell.
    private static void tamperAllAndMove(List<ToIntFunction<OnionCircuits>> calls) {
        for (int circuit = 0; circuit < 2; circuit++) {
            int c = circuit;
            for (int third = 0; third < 3; third++) {
                int link = third;
                calls.add(x -> x.tamper(c, link, FORWARD, 1));
                calls.add(x -> x.tamper(c, link, BACKWARD, 255));
            }
        }
        moveAll(calls);
    }

    private static void later(Consumer<List<ToIntFunction<OnionCircuits>>> fill) {
        List<ToIntFunction<OnionCircuits>> calls = new ArrayList<>();
        fill.accept(calls);
        LATER_CALLS.add(calls);
    }

    private static void setLaterCalls() {
        later(OnionCircuitsRefusals::readAll);
        later(OnionCircuitsRefusals::moveAll);
        later(OnionCircuitsRefusals::destroyAll);
        later(OnionCircuitsRefusals::extendAll);
        later(OnionCircuitsRefusals::openAndFillAll);
        later(OnionCircuitsRefusals::extendOpenAndFillAll);
        later(OnionCircuitsRefusals::tamperAllAndMove);
    }

    // ---- The comparison

    private static OnionCircuits inScene(String scene) {
        OnionCircuits x = new OnionCircuits(1);
        SCENES.get(scene).accept(x);
        return x;
    }

    private static void changesNothing(String scene, String what, ToIntFunction<OnionCircuits> call) {
        for (List<ToIntFunction<OnionCircuits>> calls : LATER_CALLS) {
            OnionCircuits with = inScene(scene);
            OnionCircuits without = inScene(scene);
            pairs++;
            for (int i = 0; i < TIMES; i++) {
                call.applyAsInt(with);
            }
            for (int i = 0; i < calls.size(); i++) {
                int answer = calls.get(i).applyAsInt(with);
                int want = calls.get(i).applyAsInt(without);
                if (answer != want) {
                    complain(scene + ": after " + what + " later call " + i + " answered " + answer
                        + ", without it " + want);
                    break;
                }
            }
        }
    }

    private static void refused(String scene, String what, int want, ToIntFunction<OnionCircuits> call) {
        OnionCircuits x = inScene(scene);
        for (int i = 1; i <= TIMES; i++) {
            int answer = call.applyAsInt(x);
            if (answer != want) {
                complain(scene + ": " + what + ", time " + i + ", answered " + answer + ", due is " + want);
            }
        }
        changesNothing(scene, what, call);
    }

    // ---- The refusals that the document names, each in a scene where it and no other one is due

    private static void badCircuit() {
        String[] scenes = {"a new object", "busy", "full", "busy and tampered with"};
        for (String scene : scenes) {
            for (int c : NOT_A_CIRCUIT) {
                refused(scene, "extend of circuit " + c, BAD_CIRCUIT, x -> x.extend(c, 1));
                refused(scene, "destroy of circuit " + c, BAD_CIRCUIT, x -> x.destroy(c));
                refused(scene, "open on circuit " + c, BAD_CIRCUIT, x -> x.open(c, 2));
                refused(scene, "send on circuit " + c, BAD_CIRCUIT, x -> x.send(c, 1, 9));
                refused(scene, "reply on circuit " + c, BAD_CIRCUIT, x -> x.reply(c, 0, 9));
                for (boolean side : BOTH) {
                    refused(scene, "move on circuit " + c, BAD_CIRCUIT, x -> x.move(c, 0, side));
                    refused(scene, "tamper on circuit " + c, BAD_CIRCUIT, x -> x.tamper(c, 0, side, 1));
                    refused(scene, "tamper without bits on " + c, BAD_CIRCUIT, x -> x.tamper(c, 0, side, 0));
                }
            }
        }
    }

    private static void noCircuit(String scene, int c) {
        refused(scene, "destroy", NO_CIRCUIT, x -> x.destroy(c));
        for (int third : THIRDS) {
            refused(scene, "open of stream " + third, NO_CIRCUIT, x -> x.open(c, third));
            refused(scene, "send on stream " + third, NO_CIRCUIT, x -> x.send(c, third, 9));
            refused(scene, "reply on stream " + third, NO_CIRCUIT, x -> x.reply(c, third, 9));
            for (boolean side : BOTH) {
                refused(scene, "move on link " + third, NO_CIRCUIT, x -> x.move(c, third, side));
                refused(scene, "tamper on link " + third, NO_CIRCUIT, x -> x.tamper(c, third, side, 1));
                refused(scene, "tamper without bits on " + third, NO_CIRCUIT, x -> x.tamper(c, third, side, 0));
            }
        }
    }

    private static void noCircuit() {
        noCircuit("a new object", 0);
        noCircuit("a new object", 1);
        noCircuit("busy, circuit 0 unbuilt", 0);
        noCircuit("busy, circuit 1 unbuilt", 1);
        noCircuit("destroyed", 0);
        noCircuit("destroyed", 1);
    }

    private static void extendRefusals() {
        for (String scene : SCENES.keySet()) {
            for (int relay : NOT_A_RELAY) {
                refused(scene, "extend to relay " + relay, BAD_RELAY, x -> x.extend(0, relay));
                refused(scene, "extend of 1 to relay " + relay, BAD_RELAY, x -> x.extend(1, relay));
            }
        }
        refused("one hop", "extend to the only hop's relay", BAD_RELAY, x -> x.extend(0, 2));
        for (int c = 0; c < 2; c++) {
            int circuit = c;
            int[] hops = {0, 3, 4};
            int[] others = {1, 2};
            for (int relay : hops) {
                refused("busy", "extend to the hop " + relay, BAD_RELAY, x -> x.extend(circuit, relay));
            }
            for (int relay : others) {
                refused("busy", "extend of three hops to " + relay, FULL, x -> x.extend(circuit, relay));
            }
        }
    }

    private static void openRefusals() {
        String[] built = {"busy", "full", "busy and tampered with", "destroyed and built again"};
        for (String scene : built) {
            for (int stream : NOT_A_THIRD) {
                refused(scene, "open of stream " + stream, BAD_STREAM, x -> x.open(0, stream));
                refused(scene, "open on 1 of stream " + stream, BAD_STREAM, x -> x.open(1, stream));
            }
        }
        for (int stream = 0; stream < 3; stream++) {
            int s = stream;
            refused("full", "open of open stream " + s, OPEN, x -> x.open(0, s));
            refused("full", "open on 1 of open stream " + s, OPEN, x -> x.open(1, s));
        }
        // Joined at a hop that is not the exit any more, and with bytes got: neither may be set anew.
        for (int stream = 0; stream < 2; stream++) {
            int s = stream;
            refused("busy", "open of open stream " + s, OPEN, x -> x.open(0, s));
            refused("busy, circuit 0 unbuilt", "open on 1 of open stream " + s, OPEN, x -> x.open(1, s));
        }
        refused("one hop", "open of the only stream", OPEN, x -> x.open(0, 1));
    }

    private static void sendAndReplyRefusals() {
        String[] built = {"busy", "full", "busy and tampered with", "destroyed and built again"};
        for (String scene : built) {
            for (int stream : NOT_A_THIRD) {
                refused(scene, "send on stream " + stream, BAD_STREAM, x -> x.send(0, stream, 9));
                refused(scene, "reply on stream " + stream, BAD_STREAM, x -> x.reply(0, stream, 9));
                refused(scene, "send on 1 on stream " + stream, BAD_STREAM, x -> x.send(1, stream, 9));
                refused(scene, "reply on 1 on stream " + stream, BAD_STREAM, x -> x.reply(1, stream, 9));
            }
        }
        refused("busy", "send on a stream that isn't open", BAD_STREAM, x -> x.send(0, 2, 9));
        refused("busy", "reply on a stream that isn't open", BAD_STREAM, x -> x.reply(1, 2, 9));
        refused("busy", "send with three cells forward", WINDOW, x -> x.send(0, 0, 9));
        refused("busy", "reply with three cells backward", WINDOW, x -> x.reply(1, 1, 9));
        for (int stream = 0; stream < 3; stream++) {
            int s = stream;
            String again = "destroyed and built again";
            refused(again, "send on stream " + s + " of before destroy", BAD_STREAM, x -> x.send(0, s, 9));
            refused(again, "reply on stream " + s + " of before destroy", BAD_STREAM, x -> x.reply(0, s, 9));
            refused("full", "send on full stream " + s, WINDOW, x -> x.send(0, s, 9));
            refused("full", "reply on full stream " + s, WINDOW, x -> x.reply(0, s, 9));
            refused("full", "send on 1 on full stream " + s, WINDOW, x -> x.send(1, s, 9));
            refused("full", "reply on 1 on full stream " + s, WINDOW, x -> x.reply(1, s, 9));
        }
    }

    private static void dueNothing(String scene, int c, int link, boolean forward) {
        String where = " on link " + link + (forward ? " forward" : " backward") + " of " + c;
        refused(scene, "move" + where, NOTHING, x -> x.move(c, link, forward));
        refused(scene, "tamper" + where, NOTHING, x -> x.tamper(c, link, forward, 1));
        refused(scene, "tamper without bits" + where, NOTHING, x -> x.tamper(c, link, forward, 256));
    }

    private static void moveAndTamperRefusals() {
        String[] built = {"busy", "full", "busy and tampered with", "destroyed and built again"};
        for (String scene : built) {
            for (int link : NOT_A_THIRD) {
                for (boolean forward : BOTH) {
                    dueNothing(scene, 0, link, forward);
                    dueNothing(scene, 1, link, forward);
                }
            }
        }
        for (int link = 1; link < 3; link++) {
            dueNothing("one hop", 0, link, FORWARD);
            dueNothing("one hop", 0, link, BACKWARD);
        }
        for (int c = 0; c < 2; c++) {
            dueNothing("busy", c, 2, FORWARD);
            dueNothing("busy", c, 2, BACKWARD);
            dueNothing("full", c, 2, FORWARD);
            dueNothing("full", c, 0, BACKWARD);
        }
        for (int link = 0; link < 3; link++) {
            dueNothing("destroyed and built again", 0, link, FORWARD);
            dueNothing("destroyed and built again", 0, link, BACKWARD);
        }
    }

    // ---- Every call with arguments in and out of range, in every scene

    private static void ifRefused(String scene, String what, ToIntFunction<OnionCircuits> call) {
        int answer = call.applyAsInt(inScene(scene));
        if (answer < 0) {
            refused(scene, what, answer, call);
        }
    }

    private static void whateverIsRefused(String scene) {
        for (int c : CIRCUITS) {
            ifRefused(scene, "destroy(" + c + ")", x -> x.destroy(c));
            for (int relay : RELAYS) {
                ifRefused(scene, "extend(" + c + ", " + relay + ")", x -> x.extend(c, relay));
            }
            for (int third : THIRDS) {
                String args = "(" + c + ", " + third + ")";
                ifRefused(scene, "open" + args, x -> x.open(c, third));
                for (int b : BYTES) {
                    ifRefused(scene, "send" + args, x -> x.send(c, third, b));
                    ifRefused(scene, "reply" + args, x -> x.reply(c, third, b));
                }
                for (boolean side : BOTH) {
                    ifRefused(scene, "move" + args, x -> x.move(c, third, side));
                    for (int bits : BITS) {
                        ifRefused(scene, "tamper" + args, x -> x.tamper(c, third, side, bits));
                    }
                }
            }
        }
    }

    private static void reading(String scene) {
        for (int c : CIRCUITS) {
            changesNothing(scene, "hops(" + c + ")", x -> x.hops(c));
            for (int third : THIRDS) {
                String args = "(" + c + ", " + third + ")";
                for (boolean side : BOTH) {
                    changesNothing(scene, "got" + args, x -> x.got(c, third, side));
                    changesNothing(scene, "waiting" + args, x -> x.waiting(c, third, side));
                    for (int back : BACKS) {
                        changesNothing(scene, "byteGot" + args, x -> x.byteGot(c, third, side, back));
                    }
                }
            }
        }
    }

    private static void noBitsDoNothing() {
        int[] none = {0, 256, -256, MIN};
        for (String scene : SCENES.keySet()) {
            for (int link = 0; link < 3; link++) {
                int l = link;
                for (boolean forward : BOTH) {
                    for (int bits : none) {
                        changesNothing(scene, "tamper with " + bits, x -> x.tamper(0, l, forward, bits));
                        changesNothing(scene, "tamper on 1 with " + bits, x -> x.tamper(1, l, forward, bits));
                    }
                }
            }
        }
    }

    public static void main(String[] args) {
        setScenes();
        setLaterCalls();
        badCircuit();
        noCircuit();
        extendRefusals();
        openRefusals();
        sendAndReplyRefusals();
        moveAndTamperRefusals();
        for (String scene : SCENES.keySet()) {
            whateverIsRefused(scene);
            reading(scene);
        }
        noBitsDoNothing();
        System.out.println(wrong == 0 ? "all " + pairs + " pairs agree" : wrong + " answers are not as due");
        if (wrong != 0) {
            System.exit(1);
        }
    }
}
