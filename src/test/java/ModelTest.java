import java.util.Random;
import java.util.function.IntSupplier;

/**
 * Mixed runs of 512 calls: every answer, and the whole state behind every call, as the model has them.
 * The calls that only look come on top of the 512: EditRelay keeps no count of its calls.
 */
public final class ModelTest {
    private static final int RUNS = 1000;
    private static final int CALLS = 512;

    private final Random random;
    private final int run;
    // The document's limits let the lines jam for good: a tame run keeps away from that, a wild one does not.
    private final boolean tame;
    private final EditRelay relay = new EditRelay();
    private final Model model = new Model();
    private final int[] weights = new int[5];
    private int calls = 0;

    private ModelTest(int run) {
        this.run = run;
        this.tame = run % 4 != 0;
        this.random = new Random(run);
        for (int i = 0; i < weights.length; i++) {
            weights[i] = 1 + random.nextInt(random.nextBoolean() ? 4 : 20);
        }
    }

    public static void main(String[] args) {
        for (int run = 0; run < RUNS; run++) {
            new ModelTest(run).play();
        }
        Check.end("ModelTest");
    }

    private void play() {
        int callsLeftForHandingOn = tame ? 100 : 0;
        while (calls < CALLS - callsLeftForHandingOn) {
            anyCall();
            if (tame && nearJam()) {
                handOnAndNod();
            }
        }
        if (tame) {
            handOnAll();
            Check.same("run " + run + ": quiet when all has been handed on", true, relay.quiet());
        }
    }

    private void anyCall() {
        int client = random.nextInt(40) == 0 ? random.nextInt(7) - 1 : 1 + random.nextInt(3);
        int choice = weighted();
        if (choice == 3) {
            push(client);
        } else if (choice == 4) {
            pull(client);
        } else if (!tame || !hasMuchUnderWay(client)) {
            makeAny(choice, client);
        }
    }

    private int weighted() {
        int all = 0;
        for (int weight : weights) {
            all += weight;
        }
        int left = random.nextInt(all);
        int choice = 0;
        while (left >= weights[choice]) {
            left -= weights[choice];
            choice++;
        }
        return choice;
    }

    private void makeAny(int choice, int client) {
        if (choice == 0) {
            insert(client);
        } else if (choice == 1) {
            delete(client);
        } else {
            nod(client);
        }
    }

    private void insert(int client) {
        int at = anyPlace(client, 1);
        char letter = (char) (random.nextInt(40) == 0 ? random.nextInt(200) : 32 + random.nextInt(95));
        both("insert(" + client + ", " + at + ", " + (int) letter + ")",
                () -> model.insert(client, at, letter), () -> relay.insert(client, at, letter));
    }

    private void delete(int client) {
        int at = anyPlace(client, 0);
        both("delete(" + client + ", " + at + ")", () -> model.delete(client, at), () -> relay.delete(client, at));
    }

    private void nod(int client) {
        both("nod(" + client + ")", () -> model.nod(client), () -> {
            relay.nod(client);
            return 0;
        });
    }

    private void push(int client) {
        both("push(" + client + ")", () -> model.push(client), () -> relay.push(client));
    }

    private void pull(int client) {
        both("pull(" + client + ")", () -> model.pull(client), () -> relay.pull(client));
    }

    /** Mostly a place of the client's text, near its start so that changes meet; sometimes none. */
    private int anyPlace(int client, int beyond) {
        int places = client < 1 || client > 3 ? 1 : model.texts[client].length() + beyond;
        if (places == 0 || random.nextInt(30) == 0) {
            return random.nextInt(places + 4) - 2;
        }
        return random.nextInt(random.nextBoolean() ? Math.min(places, 3) : places);
    }

    private boolean hasMuchUnderWay(int client) {
        boolean isClient = client >= 1 && client <= 3;
        return isClient && (relay.waiting(client, true) > 4 || relay.open(client, true) > 12);
    }

    private boolean nearJam() {
        return relay.open(1, false) > 11 || relay.open(2, false) > 11 || relay.open(3, false) > 11;
    }

    private void handOnAndNod() {
        handOnAll();
        for (int client = 1; client <= 3; client++) {
            nod(client);
            push(client);
        }
        handOnAll();
    }

    private void handOnAll() {
        for (int round = 0; round < 50 && !relay.quiet(); round++) {
            for (int client = 1; client <= 3; client++) {
                if (relay.waiting(client, false) > 0) {
                    pull(client);
                }
                if (relay.waiting(client, true) > 0) {
                    push(client);
                }
            }
        }
    }

    private void both(String call, IntSupplier due, IntSupplier answered) {
        calls++;
        if (calls > CALLS) {
            return;
        }
        String name = "run " + run + ", call " + calls + ": " + call;
        Check.same(name, outcome(due), outcome(answered));
        Check.same(name + ", the state afterwards", model.state(), Check.stateOf(relay));
        if (relay.quiet()) {
            Check.same(name + ", alike when nothing waits", true, relay.alike());
        }
    }

    private static String outcome(IntSupplier call) {
        try {
            return Integer.toString(call.getAsInt());
        } catch (RuntimeException e) {
            return e.getClass().getSimpleName();
        }
    }
}
