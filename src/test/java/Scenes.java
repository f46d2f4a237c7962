/** How the tests bring an object to where they want it. */
final class Scenes {
    private Scenes() {
    }

    /** All have this text and have got everything; up to 16 letters, all of them by client 1. */
    static Relay startingWith(String text) {
        Relay relay = new Relay();
        for (int i = 0; i < text.length(); i++) {
            relay.insert(1, i, text.charAt(i));
        }
        handOn(relay);
        return relay;
    }

    /** All have this text, of any length, and hardly anything is open. */
    static Relay settledWith(String text) {
        Relay relay = new Relay();
        for (int i = 0; i < text.length(); i++) {
            relay.insert(1, i, text.charAt(i));
            if (i % 12 == 11) {
                settle(relay);
            }
        }
        settle(relay);
        return relay;
    }

    /** All have so many letters: 0123456789012.. */
    static Relay settledWith(int letters) {
        StringBuilder text = new StringBuilder();
        for (int i = 0; i < letters; i++) {
            text.append((char) ('0' + i % 10));
        }
        return settledWith(text.toString());
    }

    /** So many changes are open towards a client, none of them got by it, and nothing waits up. */
    static Relay openTowards(int client, int many) {
        Relay relay = new Relay();
        int one = lesserOther(client);
        nod(relay, one, many / 2);
        nod(relay, greaterOther(client), many - many / 2);
        handUp(relay);
        return relay;
    }

    /** 24 are open towards every client, 16 are open on every client's side, 4 messages of each wait. */
    static Relay jammed() {
        Relay relay = new Relay();
        for (int client = 1; client <= 3; client++) {
            nod(relay, client, 16);
        }
        for (int i = 0; i < 12; i++) {
            for (int client = 1; client <= 3; client++) {
                relay.push(client);
            }
        }
        return relay;
    }

    static int lesserOther(int client) {
        return client == 1 ? 2 : 1;
    }

    static int greaterOther(int client) {
        return client == 3 ? 2 : 3;
    }

    static void insert(Relay relay, int client, int many) {
        for (int i = 0; i < many; i++) {
            relay.insert(client, 0, (char) ('a' + i % 26));
        }
    }

    static void nod(Relay relay, int client, int many) {
        for (int i = 0; i < many; i++) {
            relay.nod(client);
        }
    }

    static void push(Relay relay, int client, int many) {
        for (int i = 0; i < many; i++) {
            relay.push(client);
        }
    }

    static void pull(Relay relay, int client, int many) {
        for (int i = 0; i < many; i++) {
            relay.pull(client);
        }
    }

    static void pushAll(Relay relay, int client) {
        push(relay, client, relay.waiting(client, true));
    }

    static void pullAll(Relay relay, int client) {
        pull(relay, client, relay.waiting(client, false));
    }

    static void handUp(Relay relay) {
        for (int client = 1; client <= 3; client++) {
            pushAll(relay, client);
        }
    }

    static void handOn(Relay relay) {
        for (int round = 0; round < 100 && !relay.quiet(); round++) {
            for (int client = 1; client <= 3; client++) {
                pullAll(relay, client);
                push(relay, client, Math.min(1, relay.waiting(client, true)));
            }
        }
    }

    /** A client tells the server what it has got, and the others get that nod. */
    static void nodAndHandOn(Relay relay, int client) {
        relay.nod(client);
        handOn(relay);
    }

    /** Hands all on and lets everybody nod in turn: then nothing is open on a client's side but the nod of 3. */
    static void settle(Relay relay) {
        handOn(relay);
        for (int round = 0; round < 2; round++) {
            for (int client = 1; client <= 3; client++) {
                nodAndHandOn(relay, client);
            }
        }
    }
}
