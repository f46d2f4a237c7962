public final class EditRelay {
    public static final int INSERT = 0, DELETE = 1, NOTHING = 2;

    private static final int SERVER = 0, CLIENTS = 3;
    private static final int FIRST_LETTER = 32, LAST_LETTER = 126;
    private static final int FULL_TEXT = 40, MOST_OPEN_UP = 16, MOST_OPEN_DOWN = 24;

    // An insert comes from a client that has at most 40 letters with it. Wherever it meets changes that
    // this client had not got, these are open towards it, so at most 24: no text can grow beyond the sum.
    private static final int TEXT_ROOM = FULL_TEXT + MOST_OPEN_DOWN;

    private final Text[] texts;
    private final Way[] ups;
    private final Way[] downs;
    private final Change made;

    public EditRelay() {
        texts = new Text[1 + CLIENTS];
        for (int site = 0; site <= CLIENTS; site++) {
            texts[site] = new Text();
        }
        ups = new Way[CLIENTS];
        downs = new Way[CLIENTS];
        for (int i = 0; i < CLIENTS; i++) {
            ups[i] = new Way(MOST_OPEN_UP);
            downs[i] = new Way(MOST_OPEN_DOWN);
        }
        made = new Change();
    }

    public int insert(int client, int at, char letter)
            throws IllegalArgumentException, IndexOutOfBoundsException, UnsupportedOperationException {
        checkClient(client);
        if (letter < FIRST_LETTER || letter > LAST_LETTER) {
            throw new IllegalArgumentException("no letter");
        }
        Text text = texts[client];
        if (at < 0 || at > text.count) {
            throw new IndexOutOfBoundsException("no place to insert at");
        }
        if (text.count >= FULL_TEXT) {
            throw new UnsupportedOperationException("the text is full");
        }
        checkMayMakeChange(client);
        makeChange(client, INSERT, at, letter);
        return text.count;
    }

    public int delete(int client, int at)
            throws IllegalArgumentException, IndexOutOfBoundsException, UnsupportedOperationException {
        checkClient(client);
        Text text = texts[client];
        checkHasLetter(text, at);
        checkMayMakeChange(client);
        char letter = text.letters[at];
        makeChange(client, DELETE, at, letter);
        return letter;
    }

    public void nod(int client) throws IllegalArgumentException, UnsupportedOperationException {
        checkClient(client);
        checkMayMakeChange(client);
        makeChange(client, NOTHING, 0, ' ');
    }

    public int push(int client)
            throws IllegalArgumentException, IllegalStateException, UnsupportedOperationException {
        checkClient(client);
        checkSomeWaits(way(client, true));
        for (int other = 1; other <= CLIENTS; other++) {
            if (other != client && way(other, false).isFull()) {
                throw new UnsupportedOperationException("too much is open towards another client");
            }
        }
        Change done = receive(SERVER, way(client, true), way(client, false));
        for (int other = 1; other <= CLIENTS; other++) {
            if (other != client) {
                way(other, false).send(done, way(other, true).got);
            }
        }
        return done.kind;
    }

    public int pull(int client) throws IllegalArgumentException, IllegalStateException {
        checkClient(client);
        checkSomeWaits(way(client, false));
        return receive(client, way(client, false), way(client, true)).kind;
    }

    public int waiting(int client, boolean up) throws IllegalArgumentException {
        checkClient(client);
        return way(client, up).waitingCount();
    }

    public int got(int client, boolean up) throws IllegalArgumentException {
        checkClient(client);
        return way(client, up).got;
    }

    public int open(int client, boolean up) throws IllegalArgumentException {
        checkClient(client);
        return way(client, up).openCount();
    }

    public int change(int client, boolean up, int i) throws IllegalArgumentException, IndexOutOfBoundsException {
        checkClient(client);
        Way way = way(client, up);
        if (i < 0 || i >= way.openCount()) {
            throw new IndexOutOfBoundsException("no such open change");
        }
        Change open = way.openChange(i);
        return 1000 * open.kind + 10 * open.place + open.origin;
    }

    public int size(int site) throws IllegalArgumentException {
        checkSite(site);
        return texts[site].count;
    }

    public int letter(int site, int at) throws IllegalArgumentException, IndexOutOfBoundsException {
        checkSite(site);
        Text text = texts[site];
        checkHasLetter(text, at);
        return text.letters[at];
    }

    public boolean alike() {
        for (int client = 1; client <= CLIENTS; client++) {
            if (!texts[client].isSameAs(texts[SERVER])) {
                return false;
            }
        }
        return true;
    }

    public boolean quiet() {
        for (int client = 1; client <= CLIENTS; client++) {
            if (way(client, true).waitingCount() > 0 || way(client, false).waitingCount() > 0) {
                return false;
            }
        }
        return true;
    }

    private static void checkClient(int client) {
        if (client < 1 || client > CLIENTS) {
            throw new IllegalArgumentException("no client");
        }
    }

    private static void checkSite(int site) {
        if (site < SERVER || site > CLIENTS) {
            throw new IllegalArgumentException("no site");
        }
    }

    private static void checkHasLetter(Text text, int at) {
        if (at < 0 || at >= text.count) {
            throw new IndexOutOfBoundsException("no letter there");
        }
    }

    private static void checkSomeWaits(Way way) {
        if (way.waitingCount() == 0) {
            throw new IllegalStateException("no message waits");
        }
    }

    private void checkMayMakeChange(int client) {
        if (way(client, true).isFull()) {
            throw new UnsupportedOperationException("too many changes are open");
        }
    }

    private Way way(int client, boolean up) {
        return up ? ups[client - 1] : downs[client - 1];
    }

    private void makeChange(int client, int kind, int place, char letter) {
        made.kind = kind;
        made.place = place;
        made.letter = letter;
        made.origin = client;
        texts[client].perform(made);
        way(client, true).send(made, way(client, false).got);
    }

    private Change receive(int site, Way from, Way back) {
        Change change = from.oldestChange();
        back.forget(from.oldestHeard());
        back.fitOpenChanges(change);
        texts[site].perform(change);
        from.got++;
        return change;
    }

    private static final class Change {
        int kind;
        int place;
        char letter;
        int origin;

        void copyFrom(Change other) {
            kind = other.kind;
            place = other.place;
            letter = other.letter;
            origin = other.origin;
        }

        // Both are fitted in one step, since each needs the other as it was before.
        static void fitToEachOther(Change a, Change b) {
            int kindBefore = a.kind;
            int placeBefore = a.place;
            a.fitTo(b.kind, b.place, b.origin);
            b.fitTo(kindBefore, placeBefore, a.origin);
        }

        private void fitTo(int otherKind, int otherPlace, int otherOrigin) {
            if (kind == NOTHING) {
                return;
            }
            if (otherKind == INSERT) {
                fitToInsert(otherPlace, otherOrigin);
            } else if (otherKind == DELETE) {
                fitToDelete(otherPlace);
            }
        }

        private void fitToInsert(int otherPlace, int otherOrigin) {
            boolean givesWay = kind == DELETE || otherOrigin < origin;
            if (otherPlace < place || otherPlace == place && givesWay) {
                place++;
            }
        }

        private void fitToDelete(int otherPlace) {
            if (otherPlace < place) {
                place--;
            } else if (otherPlace == place && kind == DELETE) {
                kind = NOTHING;
                place = 0;
            }
        }
    }

    private static final class Text {
        final char[] letters = new char[TEXT_ROOM];
        int count;

        void perform(Change change) {
            if (change.kind == INSERT) {
                put(change.place, change.letter);
            } else if (change.kind == DELETE) {
                remove(change.place);
            }
        }

        boolean isSameAs(Text other) {
            if (count != other.count) {
                return false;
            }
            for (int i = 0; i < count; i++) {
                if (letters[i] != other.letters[i]) {
                    return false;
                }
            }
            return true;
        }

        // Fitted changes always lie within the text; the guards here keep that from resting on a proof.
        private void put(int at, char letter) {
            if (at < 0 || at > count || count >= TEXT_ROOM) {
                return;
            }
            System.arraycopy(letters, at, letters, at + 1, count - at);
            letters[at] = letter;
            count++;
        }

        private void remove(int at) {
            if (at < 0 || at >= count) {
                return;
            }
            System.arraycopy(letters, at + 1, letters, at, count - at - 1);
            count--;
        }
    }

    // One direction between the server and a client: the line, and its sender's open changes.
    // Messages are got in the order in which they were sent, so three numbers tell the state of all:
    // those from got on wait, and those from known on are open. A waiting one is thus always open too,
    // and a single limit on the open ones bounds both.
    private static final class Way {
        private final int room;
        // A message keeps its change as it was sent, while the sender fits the open one on and on.
        private final Change[] messages;
        private final Change[] opens;
        private final int[] heards;
        private int sent;
        private int known;
        int got;

        Way(int room) {
            this.room = room;
            messages = new Change[room];
            opens = new Change[room];
            heards = new int[room];
            for (int i = 0; i < room; i++) {
                messages[i] = new Change();
                opens[i] = new Change();
            }
        }

        int waitingCount() {
            return sent - got;
        }

        int openCount() {
            return sent - known;
        }

        boolean isFull() {
            return openCount() >= room;
        }

        Change openChange(int i) {
            return opens[slotOf(known + i)];
        }

        void send(Change change, int heard) {
            int slot = slotOf(sent);
            messages[slot].copyFrom(change);
            opens[slot].copyFrom(change);
            heards[slot] = heard;
            sent++;
        }

        // Nobody reads a message twice, so the one who gets it may fit its change in place.
        Change oldestChange() {
            return messages[slotOf(got)];
        }

        int oldestHeard() {
            return heards[slotOf(got)];
        }

        void forget(int firstSent) {
            known = Math.max(known, firstSent);
        }

        void fitOpenChanges(Change incoming) {
            int count = openCount();
            for (int i = 0; i < count; i++) {
                Change.fitToEachOther(incoming, openChange(i));
            }
        }

        // The rows go round; floorMod, as a number of messages beyond all bounds would be below 0.
        private int slotOf(int number) {
            return Math.floorMod(number, room);
        }
    }
}
