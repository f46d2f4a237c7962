import java.util.List;

/** The section 'Terms' of the document: a test for each sentence that tells one case from another. */
public final class TermsTest {
    public static void main(String[] args) {
        fittingAnInsertToAnInsert();
        fittingAnInsertToADelete();
        fittingADeleteToAnInsert();
        fittingADeleteToADelete();
        fittingNothing();
        atTheTextsEnds();
        messagesWaitTheOldestFirst();
        openChangesStandTheOldestFirst();
        aMessageKeepsItsChange();
        aMessageKeepsTheNumberOfItsTime();
        knownByTheServer();
        knownByAClient();
        theKnownOnesGoBeforeTheFitting();
        throughARowOnAClientsSide();
        throughARowOnTheServersSide();
        theNumberGotGrowsByOne();
        aClientDoesItsChangeAtOnce();
        theServerSendsWhatItHasDone();
        theServerSendsToTheOtherTwo();
        Check.end("TermsTest");
    }

    // ---- to be fitted: changes are told as change() tells them, 1000 * kind + 10 * place, the origin left out

    private static final int NOTHING = 2000;

    private static int insertAt(int place) {
        return 10 * place;
    }

    private static int deleteAt(int place) {
        return 1000 + 10 * place;
    }

    /** INSERT at p, fitted to an INSERT at q: its place grows by 1 if q is less than p, or q is p and b's origin is less. */
    private static void fittingAnInsertToAnInsert() {
        forAllPairs("inserts, q less than p", insertAt(2), insertAt(1), insertAt(3), insertAt(1));
        for (int x = 1; x <= 3; x++) {
            for (int y = x + 1; y <= 3; y++) {
                meet("inserts, q is p", x, insertAt(2), y, insertAt(2), insertAt(2), insertAt(3));
                meet("inserts at 0", x, insertAt(0), y, insertAt(0), insertAt(0), insertAt(1));
                meet("inserts at the end", x, insertAt(5), y, insertAt(5), insertAt(5), insertAt(6));
            }
        }
    }

    /** INSERT at p, fitted to a DELETE at q: its place is 1 less if q is less than p; else it stays. */
    private static void fittingAnInsertToADelete() {
        forAllPairs("insert, delete below", insertAt(2), deleteAt(1), insertAt(1), deleteAt(1));
        forAllPairs("insert, delete at its place", insertAt(2), deleteAt(2), insertAt(2), deleteAt(3));
        forAllPairs("insert, delete above", insertAt(2), deleteAt(3), insertAt(2), deleteAt(4));
    }

    /** DELETE at p, fitted to an INSERT at q: its place grows by 1 if q is not above p. */
    private static void fittingADeleteToAnInsert() {
        forAllPairs("delete, insert below", deleteAt(2), insertAt(1), deleteAt(3), insertAt(1));
        forAllPairs("delete, insert at its place", deleteAt(2), insertAt(2), deleteAt(3), insertAt(2));
        forAllPairs("delete, insert above", deleteAt(2), insertAt(3), deleteAt(2), insertAt(2));
    }

    /** DELETE at p, fitted to a DELETE at q: its place is 1 less if q is less than p, and it becomes NOTHING if q is p. */
    private static void fittingADeleteToADelete() {
        forAllPairs("deletes, q less than p", deleteAt(2), deleteAt(1), deleteAt(1), deleteAt(1));
        forAllPairs("deletes, q is p", deleteAt(2), deleteAt(2), NOTHING, NOTHING);
        forAllPairs("deletes, q above p", deleteAt(2), deleteAt(3), deleteAt(2), deleteAt(2));
    }

    /** All else stays. */
    private static void fittingNothing() {
        forAllPairs("nothing, insert", NOTHING, insertAt(0), NOTHING, insertAt(0));
        forAllPairs("nothing, delete", NOTHING, deleteAt(0), NOTHING, deleteAt(0));
        forAllPairs("nothing, delete above", NOTHING, deleteAt(4), NOTHING, deleteAt(4));
        forAllPairs("nothing, nothing", NOTHING, NOTHING, NOTHING, NOTHING);
    }

    private static void atTheTextsEnds() {
        forAllPairs("insert at the end, delete of the last", insertAt(5), deleteAt(4), insertAt(4), deleteAt(4));
        forAllPairs("insert at the end, insert at 0", insertAt(5), insertAt(0), insertAt(6), insertAt(0));
        forAllPairs("insert at 0, delete at 0", insertAt(0), deleteAt(0), insertAt(0), deleteAt(1));
        forAllPairs("delete of the last, insert at the end", deleteAt(4), insertAt(5), deleteAt(4), insertAt(4));
        forAllPairs("delete of the last, insert at its place", deleteAt(4), insertAt(4), deleteAt(5), insertAt(4));
        forAllPairs("both delete the first", deleteAt(0), deleteAt(0), NOTHING, NOTHING);
        forAllPairs("both delete the last", deleteAt(4), deleteAt(4), NOTHING, NOTHING);
    }

    private static void forAllPairs(String what, int a, int b, int dueA, int dueB) {
        for (int x = 1; x <= 3; x++) {
            for (int y = 1; y <= 3; y++) {
                if (x != y) {
                    meet(what, x, a, y, b, dueA, dueB);
                }
            }
        }
    }

    /** Client x makes a and client y makes b on the same text, got by the server in either order. */
    private static void meet(String what, int x, int a, int y, int b, int dueA, int dueB) {
        String name = what + ", by " + x + " and " + y;
        meetInOrder(name, x, a, y, b, dueA, dueB, false);
        meetInOrder(name, x, a, y, b, dueA, dueB, true);
        meetInOrder(name, y, b, x, a, dueB, dueA, false);
        meetInOrder(name, y, b, x, a, dueB, dueA, true);
    }

    /** The server gets a first; y gets a before or after the server has got b, which makes no difference. */
    private static void meetInOrder(String what, int x, int a, int y, int b, int dueA, int dueB, boolean pullFirst) {
        String name = what + ", " + x + " first" + (pullFirst ? ", pulled first: " : ": ");
        Relay relay = Scenes.startingWith("abcde");
        int third = 6 - x - y;
        make(relay, x, a);
        make(relay, y, b);
        Check.same(name + "the first push", a / 1000, relay.push(x));
        if (pullFirst) {
            pullA(relay, name, x, y, dueA, dueB);
        }
        Check.same(name + "the second push", dueB / 1000, relay.push(y));
        Check.same(name + "open towards " + y, List.of(dueA + x), Check.lastOpenOf(relay, y, false, 1));
        Check.same(name + "open towards " + third, List.of(a + x, dueB + y), Check.lastOpenOf(relay, third, false, 2));
        Check.same(name + "open towards " + x, List.of(dueB + y), Check.openOf(relay, x, false));
        if (!pullFirst) {
            pullA(relay, name, x, y, dueA, dueB);
        }
        Check.same(name + "the pull of " + x, dueB / 1000, relay.pull(x));
        Check.same(name + "the first pull of " + third, a / 1000, relay.pull(third));
        Check.same(name + "the second pull of " + third, dueB / 1000, relay.pull(third));
        String due = after(after("abcde", a, x), dueB, y);
        for (int site = 0; site <= 3; site++) {
            Check.same(name + "the text of " + site, due, Check.textOf(relay, site));
        }
    }

    private static void pullA(Relay relay, String name, int x, int y, int dueA, int dueB) {
        Check.same(name + "the pull of " + y, dueA / 1000, relay.pull(y));
        Check.same(name + "open on the side of " + y, List.of(dueB + y), Check.openOf(relay, y, true));
    }

    private static void make(Relay relay, int client, int change) {
        int place = change % 1000 / 10;
        if (change >= NOTHING) {
            relay.nod(client);
        } else if (change >= 1000) {
            relay.delete(client, place);
        } else {
            relay.insert(client, place, letterOf(client));
        }
    }

    private static String after(String text, int change, int client) {
        StringBuilder changed = new StringBuilder(text);
        int place = change % 1000 / 10;
        if (change < 1000) {
            changed.insert(place, letterOf(client));
        } else if (change < NOTHING) {
            changed.deleteCharAt(place);
        }
        return changed.toString();
    }

    private static char letterOf(int client) {
        return (char) ('w' + client);
    }

    // ---- lines and open changes

    /** In a line messages wait, the oldest first. */
    private static void messagesWaitTheOldestFirst() {
        Relay relay = new Relay();
        relay.insert(3, 0, 'a');
        relay.nod(3);
        relay.delete(3, 0);
        Check.same("the server gets the first", EditRelay.INSERT, relay.push(3));
        Check.same("then the second", EditRelay.NOTHING, relay.push(3));
        Check.same("then the third", EditRelay.DELETE, relay.push(3));
        Check.same("client 1 gets the first", EditRelay.INSERT, relay.pull(1));
        Check.same("then the second", EditRelay.NOTHING, relay.pull(1));
        Check.same("then the third", EditRelay.DELETE, relay.pull(1));
    }

    /** On each side of a line there is a row of open changes, the oldest first. */
    private static void openChangesStandTheOldestFirst() {
        Relay relay = new Relay();
        relay.insert(2, 0, 'a');
        relay.nod(2);
        relay.insert(2, 1, 'b');
        relay.delete(2, 0);
        List<Integer> due = List.of(2, 2002, 12, 1002);
        Check.same("on the client's side", due, Check.openOf(relay, 2, true));
        Scenes.pushAll(relay, 2);
        Check.same("on the client's side, got", due, Check.openOf(relay, 2, true));
        Check.same("on the server's side towards 1", due, Check.openOf(relay, 1, false));
        Check.same("on the server's side towards 3", due, Check.openOf(relay, 3, false));
        Check.same("none towards 2", List.of(), Check.openOf(relay, 2, false));
    }

    /** What is fitted is the open change and the one that was got, not the one that still waits. */
    private static void aMessageKeepsItsChange() {
        Relay relay = Scenes.startingWith("abcd");
        relay.delete(1, 3);
        relay.insert(2, 0, 'x');
        relay.insert(2, 0, 'y');
        relay.push(2);
        relay.push(2);
        Scenes.pull(relay, 1, 2);
        Check.same("the open one is fitted", List.of(1051), Check.openOf(relay, 1, true));
        relay.push(1);
        Check.same("the server does it in its place", "yxabc", Check.textOf(relay, 0));
        Check.same("towards 1 the inserts stay open", List.of(2, 2), Check.openOf(relay, 1, false));
    }

    /** A message has the number of messages that its sender had got when it was sent, not when it is got. */
    private static void aMessageKeepsTheNumberOfItsTime() {
        Relay up = new Relay();
        up.nod(1);
        up.push(1);
        up.nod(2);
        up.pull(2);
        up.push(2);
        Check.same("sent before 2 got anything", 1, up.open(2, false));
        up.nod(2);
        up.push(2);
        Check.same("sent afterwards", 0, up.open(2, false));

        Relay down = new Relay();
        down.nod(1);
        down.nod(2);
        down.push(2);
        down.push(1);
        down.pull(1);
        Check.same("sent before the server got anything of 1", 1, down.open(1, true));
        down.nod(2);
        down.push(2);
        down.pull(1);
        Check.same("sent afterwards", 0, down.open(1, true));
    }

    /** Getting a message with the number k: those go that are among the first k changes that were ever sent from here. */
    private static void knownByTheServer() {
        Relay relay = new Relay();
        for (int i = 0; i < 5; i++) {
            relay.insert(1, i, 'a');
        }
        Scenes.pushAll(relay, 1);
        hear(relay, "k is 0", 0, List.of(1, 11, 21, 31, 41));
        hear(relay, "k is 2", 2, List.of(21, 31, 41));
        hear(relay, "k is 2 again", 0, List.of(21, 31, 41));
        hear(relay, "k is 3", 1, List.of(31, 41));
        relay.nod(1);
        relay.push(1);
        hear(relay, "k is 5 of 6", 2, List.of(2001));
        hear(relay, "k is 6", 1, List.of());
        hear(relay, "k is 6 again, none open", 0, List.of());
        Check.same("towards 3 all stay", 13, relay.open(3, false));
    }

    /** Client 2 gets so many messages more, and tells the server with a nod. */
    private static void hear(Relay relay, String what, int pulls, List<Integer> due) {
        Scenes.pull(relay, 2, pulls);
        relay.nod(2);
        relay.push(2);
        Check.same("the server hears: " + what, due, Check.openOf(relay, 2, false));
    }

    private static void knownByAClient() {
        Relay relay = new Relay();
        for (int i = 0; i < 5; i++) {
            relay.insert(1, i, 'a');
        }
        tell(relay, "k is 0", 0, List.of(1, 11, 21, 31, 41));
        tell(relay, "k is 2", 2, List.of(21, 31, 41));
        tell(relay, "k is 2 again", 0, List.of(21, 31, 41));
        tell(relay, "k is 3", 1, List.of(31, 41));
        relay.nod(1);
        tell(relay, "k is 5 of 6", 2, List.of(2001));
        tell(relay, "k is 6", 1, List.of());
        tell(relay, "k is 6 again, none open", 0, List.of());
    }

    /** The server gets so many messages of 1 more, and tells it with a nod of 2. */
    private static void tell(Relay relay, String what, int pushes, List<Integer> due) {
        Scenes.push(relay, 1, pushes);
        relay.nod(2);
        relay.push(2);
        relay.pull(1);
        Check.same("client 1 hears: " + what, due, Check.openOf(relay, 1, true));
    }

    /** First those go that are known; then the change is fitted to each one that is still open. */
    private static void theKnownOnesGoBeforeTheFitting() {
        Relay relay = new Relay();
        relay.insert(1, 0, 'a');
        relay.push(1);
        relay.pull(2);
        relay.insert(2, 0, 'b');
        relay.push(2);
        Check.same("the server knows that 2 has got the a", "ba", Check.textOf(relay, 0));
        relay.pull(1);
        Check.same("client 1 knows that the server has got the a", "ba", Check.textOf(relay, 1));

        Relay half = new Relay();
        half.insert(1, 0, 'a');
        half.insert(1, 1, 'b');
        half.push(1);
        half.pull(2);
        half.insert(2, 1, 'x');
        half.push(1);
        half.push(2);
        Check.same("the server fits to the b alone", "abx", Check.textOf(half, 0));
        Check.same("what it sent to 1", List.of(22), Check.openOf(half, 1, false));
        Check.same("the b before the x stays", List.of(11), Check.openOf(half, 2, false));
    }

    /** For each one b that is still open, in order: a becomes a fitted to b, and b becomes b fitted to a as it was before. */
    private static void throughARowOnAClientsSide() {
        Relay relay = Scenes.startingWith("abcd");
        relay.delete(1, 2);
        relay.insert(1, 1, 'x');
        relay.delete(1, 0);
        relay.delete(2, 2);
        relay.push(2);
        Check.same("open before", List.of(1021, 11, 1001), Check.lastOpenOf(relay, 1, true, 3));
        Check.same("the delete of a letter that is gone", EditRelay.NOTHING, relay.pull(1));
        Check.same("only the first of the row has met it", List.of(2001, 11, 1001), Check.openOf(relay, 1, true));
        relay.insert(3, 1, 'y');
        relay.push(3);
        Check.same("an insert through the row", EditRelay.INSERT, relay.pull(1));
        Check.same("the lesser origin's insert stays", List.of(2001, 11, 1001), Check.openOf(relay, 1, true));
        Check.same("the greater origin's comes behind it", "xybd", Check.textOf(relay, 1));

        Relay order = Scenes.startingWith("abcd");
        order.insert(2, 2, 'x');
        order.delete(2, 1);
        order.insert(1, 1, 'y');
        order.push(1);
        order.pull(2);
        Check.same("each meets it where it then is", List.of(32, 1022), Check.openOf(order, 2, true));
        Check.same("before the deleted letter's place", "ayxcd", Check.textOf(order, 2));
    }

    private static void throughARowOnTheServersSide() {
        Relay relay = Scenes.startingWith("abcd");
        relay.delete(1, 2);
        relay.insert(1, 1, 'x');
        relay.delete(1, 0);
        Scenes.pushAll(relay, 1);
        relay.delete(2, 2);
        Check.same("the delete of a letter that is gone", EditRelay.NOTHING, relay.push(2));
        Check.same("only the first of the row has met it", List.of(2001, 11, 1001), Check.openOf(relay, 2, false));
        relay.insert(3, 1, 'y');
        Check.same("an insert through the row", EditRelay.INSERT, relay.push(3));
        Check.same("each as it is behind the insert", List.of(1031, 11, 1001, 2002), Check.openOf(relay, 3, false));
        Check.same("the greater origin's comes behind it", "xybd", Check.textOf(relay, 0));
        Check.same("and so it is sent", List.of(13), Check.lastOpenOf(relay, 1, false, 1));
        Scenes.handOn(relay);
        Check.same("alike in the end", true, relay.alike());
    }

    /** The number of messages got through this line is 1 more; and a row may be empty. */
    private static void theNumberGotGrowsByOne() {
        Relay relay = new Relay();
        relay.nod(1);
        relay.push(1);
        Check.same("got by the server", List.of(1, 0, 0), numbers(relay, true));
        Check.same("got by none else", List.of(0, 0, 0), numbers(relay, false));
        relay.pull(3);
        Check.same("got by 3", List.of(0, 0, 1), numbers(relay, false));
        Check.same("the server as before", List.of(1, 0, 0), numbers(relay, true));
    }

    private static List<Integer> numbers(Relay relay, boolean up) {
        return List.of(relay.got(1, up), relay.got(2, up), relay.got(3, up));
    }

    /** A client that makes a change does it to its own text at once, and sends it. */
    private static void aClientDoesItsChangeAtOnce() {
        for (int client = 1; client <= 3; client++) {
            Relay relay = new Relay();
            relay.insert(client, 0, 'a');
            for (int site = 0; site <= 3; site++) {
                Check.same("the letters of " + site, site == client ? 1 : 0, relay.size(site));
            }
            Check.same("sent", 1, relay.waiting(client, true));
            relay.delete(client, 0);
            Check.same("deleted at once", 0, relay.size(client));
            Check.same("both sent", 2, relay.waiting(client, true));
        }
    }

    /** The server sends the change that it has done: as it is fitted, and NOTHING too. */
    private static void theServerSendsWhatItHasDone() {
        Relay relay = Scenes.startingWith("ab");
        relay.insert(1, 0, 'x');
        relay.delete(2, 1);
        relay.delete(3, 1);
        relay.push(1);
        relay.push(2);
        relay.push(3);
        Check.same("the first delete, fitted", List.of(1022, 2003), Check.lastOpenOf(relay, 1, false, 2));
        Check.same("the second has become nothing", List.of(1, 2003), Check.lastOpenOf(relay, 2, false, 2));
        Check.same("and waits for 2 as nothing", List.of(EditRelay.INSERT, EditRelay.NOTHING),
                List.of(relay.pull(2), relay.pull(2)));
    }

    /** It sends to the other two clients, not to the one that it has it from. */
    private static void theServerSendsToTheOtherTwo() {
        for (int client = 1; client <= 3; client++) {
            Relay relay = new Relay();
            relay.nod(client);
            relay.push(client);
            for (int other = 1; other <= 3; other++) {
                int due = other == client ? 0 : 1;
                Check.same("waiting for " + other, due, relay.waiting(other, false));
                Check.same("open towards " + other, due, relay.open(other, false));
            }
        }
    }
}
