import java.util.Arrays;
import java.util.Random;
import java.util.function.IntSupplier;

/** Mixed runs of up to 512 calls of every kind: every answer, and the whole state in the end, as the model has them. */
public final class ModelTest {
    private static final int RUNS = 4000;
    private static final int LEFT_FOR_HANDING_ON = 100;

    private final Random random;
    private final int run;
    // The document's limits let the lines jam for good: a tame run keeps away from that, a wild one does not.
    private final boolean tame;
    private final Relay relay = new Relay();
    private final Model model = new Model();
    private final int[] weights = new int[6];
    private int calls = 0;

    private ModelTest(int run) {
        this.run = run;
        this.tame = run % 4 != 0;
        this.random = new Random(run);
        for (int i = 0; i < weights.length; i++) {
            weights[i] = 1 + random.nextInt(random.nextBoolean() ? 4 : 20);
        }
        if (run % 5 == 0) {
            fillTexts();
        }
    }

    /** Hardly anything but inserts, that come through: texts become full. */
    private void fillTexts() {
        Arrays.fill(weights, 1);
        weights[0] = 20;
        weights[3] = 15;
        weights[4] = 30;
    }

    public static void main(String[] args) {
        for (int run = 0; run < RUNS; run++) {
            new ModelTest(run).play();
        }
        Check.end("ModelTest");
    }

    private void play() {
        int most = Relay.MOST_CALLS - (tame ? LEFT_FOR_HANDING_ON : 0);
        int length = run % 3 == 0 ? most : 1 + random.nextInt(most);
        while (calls < length) {
            anyCall();
            if (model.quiet()) {
                Check.same("run " + run + ", call " + calls + ": alike while quiet", true, model.alike());
            }
            if (tame && nearJam()) {
                handOnAndNod();
            }
        }
        if (tame) {
            handOnAll();
            Check.same("run " + run + ": quiet when all has been handed on", true, model.quiet());
            Check.same("run " + run + ": alike when all has been handed on", true, model.alike());
        }
        // What only looks is not made again on a new object, so a look that changes something shows here too.
        Check.same("run " + run + ": the state in the end", model.state(), Check.stateOf(relay));
    }

    private void anyCall() {
        int client = random.nextInt(40) == 0 ? random.nextInt(7) - 1 : 1 + random.nextInt(3);
        int choice = weighted();
        if (choice == 5) {
            look(client);
        } else if (choice == 4) {
            pull(client);
        } else if (choice == 3) {
            push(client);
        } else if (!tame || !hasMuchUnderWay(client)) {
            make(choice, client);
        }
    }

    private int weighted() {
        int all = 0;
        for (int weight : weights) {
            all += weight;
        }
        int left = random.nextInt(all);
        int choice = 0;
        while (left >= weights[choice]) {
            left -= weights[choice];
            choice++;
        }
        return choice;
    }

    private void make(int choice, int client) {
        if (choice == 0) {
            insert(client);
        } else if (choice == 1) {
            delete(client);
        } else {
            nod(client);
        }
    }

    private void insert(int client) {
        int at = anyPlace(client, 1);
        char letter = (char) (random.nextInt(40) == 0 ? random.nextInt(200) : 32 + random.nextInt(95));
        both("insert(" + client + ", " + at + ", " + (int) letter + ")",
                () -> model.insert(client, at, letter), () -> relay.insert(client, at, letter));
    }

    private void delete(int client) {
        int at = anyPlace(client, 0);
        both("delete(" + client + ", " + at + ")", () -> model.delete(client, at), () -> relay.delete(client, at));
    }

    private void nod(int client) {
        both("nod(" + client + ")", () -> model.nod(client), () -> {
            relay.nod(client);
            return 0;
        });
    }

    private void push(int client) {
        both("push(" + client + ")", () -> model.push(client), () -> relay.push(client));
    }

    private void pull(int client) {
        both("pull(" + client + ")", () -> model.pull(client), () -> relay.pull(client));
    }

    private void look(int client) {
        boolean up = random.nextBoolean();
        int i = random.nextInt(random.nextBoolean() ? 4 : 30) - 1;
        int site = random.nextInt(3) == 0 ? 0 : client;
        String line = "(" + client + ", " + up + ")";
        switch (random.nextInt(8)) {
            case 0 -> both("waiting" + line, () -> model.waiting(client, up), () -> relay.waiting(client, up));
            case 1 -> both("got" + line, () -> model.got(client, up), () -> relay.got(client, up));
            case 2 -> both("open" + line, () -> model.open(client, up), () -> relay.open(client, up));
            case 3 -> both("change" + line + i, () -> model.change(client, up, i), () -> relay.change(client, up, i));
            case 4 -> both("size(" + site + ")", () -> model.size(site), () -> relay.size(site));
            case 5 -> both("letter(" + site + ", " + i + ")", () -> model.letter(site, i), () -> relay.letter(site, i));
            case 6 -> both("alike()", () -> model.alike() ? 1 : 0, () -> relay.alike() ? 1 : 0);
            default -> both("quiet()", () -> model.quiet() ? 1 : 0, () -> relay.quiet() ? 1 : 0);
        }
    }

    /** Mostly a place of the client's text, often near its start so that changes meet; sometimes none. */
    private int anyPlace(int client, int beyond) {
        int places = isClient(client) ? model.size(client) + beyond : 1;
        if (places == 0 || random.nextInt(30) == 0) {
            return random.nextInt(places + 4) - 2;
        }
        return random.nextInt(random.nextBoolean() ? Math.min(places, 3) : places);
    }

    private static boolean isClient(int client) {
        return client >= 1 && client <= 3;
    }

    private boolean hasMuchUnderWay(int client) {
        return isClient(client) && (model.waiting(client, true) > 4 || model.open(client, true) > 12);
    }

    private boolean nearJam() {
        return model.open(1, false) > 11 || model.open(2, false) > 11 || model.open(3, false) > 11;
    }

    private void handOnAndNod() {
        handOnAll();
        for (int client = 1; client <= 3; client++) {
            nod(client);
            push(client);
        }
        handOnAll();
    }

    private void handOnAll() {
        for (int round = 0; round < 50 && !model.quiet(); round++) {
            for (int client = 1; client <= 3; client++) {
                if (model.waiting(client, false) > 0) {
                    pull(client);
                }
                if (model.waiting(client, true) > 0) {
                    push(client);
                }
            }
        }
    }

    private void both(String call, IntSupplier due, IntSupplier answered) {
        calls++;
        if (calls > Relay.MOST_CALLS) {
            throw new AssertionError("a run asks more of an object than the document promises");
        }
        Check.same("run " + run + ", call " + calls + ": " + call, Check.outcomeOf(due), Check.outcomeOf(answered));
    }
}
