import java.util.ArrayDeque;
import java.util.ArrayList;
import java.util.Deque;
import java.util.List;

/** The document's terms written down word by word, without care for room: what ModelTest compares with. */
final class Model {
    record Change(int kind, int place, char letter, int origin) {
        Change at(int newPlace) {
            return new Change(kind, newPlace, letter, origin);
        }

        Change fittedTo(Change b) {
            if (kind == EditRelay.INSERT && b.kind == EditRelay.INSERT) {
                return b.place < place || b.place == place && b.origin < origin ? at(place + 1) : this;
            }
            if (kind == EditRelay.INSERT && b.kind == EditRelay.DELETE) {
                return b.place < place ? at(place - 1) : this;
            }
            if (kind == EditRelay.DELETE && b.kind == EditRelay.INSERT) {
                return b.place <= place ? at(place + 1) : this;
            }
            if (kind == EditRelay.DELETE && b.kind == EditRelay.DELETE) {
                return b.place < place ? at(place - 1) : b.place == place ? nothing(origin) : this;
            }
            return this;
        }

        static Change nothing(int origin) {
            return new Change(EditRelay.NOTHING, 0, ' ', origin);
        }
    }

    record Message(Change change, int number) {
    }

    /** An open change with its number among all that were ever sent from its side of the line, from 1 on. */
    record Open(int number, Change change) {
    }

    /** One direction of one client's line, with the open changes of the side that sends through it. */
    static final class Line {
        final Deque<Message> messages = new ArrayDeque<>();
        List<Open> open = new ArrayList<>();
        int sent = 0;
        int got = 0;
    }

    private final StringBuilder[] texts = new StringBuilder[4];
    private final Line[] ups = new Line[4];
    private final Line[] downs = new Line[4];

    Model() {
        for (int site = 0; site <= 3; site++) {
            texts[site] = new StringBuilder();
            ups[site] = new Line();
            downs[site] = new Line();
        }
    }

    private Line line(int client, boolean up) {
        return up ? ups[client] : downs[client];
    }

    int insert(int client, int at, char letter) {
        refuseArgumentIf(client < 1 || client > 3 || letter < 32 || letter > 126);
        refuseIndexIf(at < 0 || at > texts[client].length());
        refuseIf(texts[client].length() >= 40 || ups[client].open.size() == 16);
        make(new Change(EditRelay.INSERT, at, letter, client));
        return texts[client].length();
    }

    int delete(int client, int at) {
        refuseArgumentIf(client < 1 || client > 3);
        refuseIndexIf(at < 0 || at >= texts[client].length());
        refuseIf(ups[client].open.size() == 16);
        char letter = texts[client].charAt(at);
        make(new Change(EditRelay.DELETE, at, ' ', client));
        return letter;
    }

    int nod(int client) {
        refuseArgumentIf(client < 1 || client > 3);
        refuseIf(ups[client].open.size() == 16);
        make(Change.nothing(client));
        return 0;
    }

    int push(int client) {
        refuseArgumentIf(client < 1 || client > 3);
        refuseStateIf(ups[client].messages.isEmpty());
        for (int other = 1; other <= 3; other++) {
            boolean full = downs[other].open.size() == 24 || downs[other].messages.size() == 24;
            refuseIf(other != client && full);
        }
        Change done = get(0, ups[client], downs[client]);
        for (int other = 1; other <= 3; other++) {
            if (other != client) {
                send(done, downs[other], ups[other]);
            }
        }
        return done.kind;
    }

    int pull(int client) {
        refuseArgumentIf(client < 1 || client > 3);
        refuseStateIf(downs[client].messages.isEmpty());
        return get(client, downs[client], ups[client]).kind;
    }

    int waiting(int client, boolean up) {
        refuseArgumentIf(client < 1 || client > 3);
        return line(client, up).messages.size();
    }

    int got(int client, boolean up) {
        refuseArgumentIf(client < 1 || client > 3);
        return line(client, up).got;
    }

    int open(int client, boolean up) {
        refuseArgumentIf(client < 1 || client > 3);
        return line(client, up).open.size();
    }

    int change(int client, boolean up, int i) {
        refuseArgumentIf(client < 1 || client > 3);
        List<Open> open = line(client, up).open;
        refuseIndexIf(i < 0 || i >= open.size());
        return told(open.get(i).change);
    }

    int size(int site) {
        refuseArgumentIf(site < 0 || site > 3);
        return texts[site].length();
    }

    int letter(int site, int at) {
        refuseArgumentIf(site < 0 || site > 3);
        refuseIndexIf(at < 0 || at >= texts[site].length());
        return texts[site].charAt(at);
    }

    boolean alike() {
        String server = texts[0].toString();
        return server.contentEquals(texts[1]) && server.contentEquals(texts[2]) && server.contentEquals(texts[3]);
    }

    boolean quiet() {
        int waiting = 0;
        for (int client = 1; client <= 3; client++) {
            waiting += ups[client].messages.size() + downs[client].messages.size();
        }
        return waiting == 0;
    }

    /** The same text as Check.stateOf makes of an EditRelay. */
    String state() {
        StringBuilder state = new StringBuilder();
        for (StringBuilder text : texts) {
            state.append('"').append(text).append("\" ");
        }
        for (int client = 1; client <= 3; client++) {
            state.append(client).append(" up ").append(told(ups[client]));
            state.append(client).append(" down ").append(told(downs[client]));
        }
        return state.append(alike()).append(' ').append(quiet()).toString();
    }

    /** The state together with what no call shows: what waits, and the numbers that it bears. */
    String stateWithMessages() {
        StringBuilder state = new StringBuilder(state());
        for (int client = 1; client <= 3; client++) {
            state.append(ups[client].messages).append(downs[client].messages);
        }
        return state.toString();
    }

    private static String told(Line line) {
        List<Integer> open = new ArrayList<>();
        for (Open b : line.open) {
            open.add(told(b.change));
        }
        return line.messages.size() + " " + line.got + " " + open + " ";
    }

    private static int told(Change change) {
        return 1000 * change.kind + 10 * change.place + change.origin;
    }

    private void make(Change change) {
        perform(change, texts[change.origin]);
        send(change, ups[change.origin], downs[change.origin]);
    }

    private static void send(Change change, Line line, Line other) {
        line.messages.addLast(new Message(change, other.got));
        line.sent++;
        line.open.add(new Open(line.sent, change));
    }

    private Change get(int site, Line line, Line back) {
        Message message = line.messages.removeFirst();
        back.open.removeIf(b -> b.number <= message.number);
        Change a = message.change;
        List<Open> fitted = new ArrayList<>();
        for (Open b : back.open) {
            fitted.add(new Open(b.number, b.change.fittedTo(a)));
            a = a.fittedTo(b.change);
        }
        back.open = fitted;
        perform(a, texts[site]);
        line.got++;
        return a;
    }

    private static void perform(Change change, StringBuilder text) {
        if (change.kind == EditRelay.INSERT) {
            text.insert(change.place, change.letter);
        } else if (change.kind == EditRelay.DELETE) {
            text.deleteCharAt(change.place);
        }
    }

    private static void refuseArgumentIf(boolean wrong) {
        if (wrong) {
            throw new IllegalArgumentException();
        }
    }

    private static void refuseIndexIf(boolean wrong) {
        if (wrong) {
            throw new IndexOutOfBoundsException();
        }
    }

    private static void refuseStateIf(boolean wrong) {
        if (wrong) {
            throw new IllegalStateException();
        }
    }

    private static void refuseIf(boolean wrong) {
        if (wrong) {
            throw new UnsupportedOperationException();
        }
    }
}
