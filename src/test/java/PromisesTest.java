import java.util.List;

/** Each promise of the document by itself, in ordinary use and with wrong inputs; the edges are in BoundariesTest. */
public final class PromisesTest {
    private static final Class<IllegalArgumentException> ARGUMENT = IllegalArgumentException.class;
    private static final Class<IndexOutOfBoundsException> INDEX = IndexOutOfBoundsException.class;
    private static final Class<IllegalStateException> STATE = IllegalStateException.class;
    private static final Class<UnsupportedOperationException> UNSUPPORTED = UnsupportedOperationException.class;
    private static final int[] NO_CLIENTS = {0, 4, -1, Integer.MIN_VALUE, Integer.MAX_VALUE};
    private static final int[] NO_SITES = {4, -1, Integer.MIN_VALUE, Integer.MAX_VALUE};

    public static void main(String[] args) {
        newObject();
        insert();
        delete();
        nod();
        push();
        pull();
        waiting();
        got();
        open();
        change();
        size();
        letter();
        alike();
        quiet();
        objectsApart();
        theExampleOfTheReadme();
        Check.end("PromisesTest");
    }

    private static void texts(Relay relay, String what, String due) {
        for (int site = 0; site <= 3; site++) {
            Check.same(what + ", site " + site, due, Check.textOf(relay, site));
        }
    }

    // ---- the promises

    private static void newObject() {
        Relay relay = new Relay();
        Check.same("a new object",
                "\"\" \"\" \"\" \"\" 1 up 0 0 [] 1 down 0 0 [] 2 up 0 0 [] 2 down 0 0 [] 3 up 0 0 [] 3 down 0 0 [] true true",
                Check.stateOf(relay));
    }

    private static void insert() {
        Relay relay = new Relay();
        Check.same("insert into nothing", 1, relay.insert(2, 0, 'b'));
        Check.same("insert at the end", 2, relay.insert(2, 1, 'd'));
        Check.same("insert in the middle", 3, relay.insert(2, 1, 'c'));
        Check.same("insert at the start", 4, relay.insert(2, 0, 'a'));
        Check.same("the text", "abcd", Check.textOf(relay, 2));
        Check.same("the least letter", 5, relay.insert(2, 4, (char) 32));
        Check.same("the greatest letter", 6, relay.insert(2, 5, (char) 126));
        Check.same("the text with them", "abcd ~", Check.textOf(relay, 2));
        Check.same("the others' texts", "", Check.textOf(relay, 0) + Check.textOf(relay, 1) + Check.textOf(relay, 3));
        Check.same("sent", List.of(2, 12, 12, 2, 42, 52), Check.openOf(relay, 2, true));
        Check.same("waiting", 6, relay.waiting(2, true));
        for (int client : NO_CLIENTS) {
            Check.refuses(relay, "insert by " + client, ARGUMENT, () -> relay.insert(client, 0, 'a'));
            Check.refuses(relay, "insert by " + client + " at -1", ARGUMENT, () -> relay.insert(client, -1, 'a'));
        }
        for (char letter : new char[] {0, 31, 127, 255, Character.MAX_VALUE}) {
            Check.refuses(relay, "insert letter " + (int) letter, ARGUMENT, () -> relay.insert(2, 0, letter));
            Check.refuses(relay, "insert letter " + (int) letter + " at 9", ARGUMENT, () -> relay.insert(2, 9, letter));
        }
        for (int at : new int[] {-1, 7, Integer.MIN_VALUE, Integer.MAX_VALUE}) {
            Check.refuses(relay, "insert at " + at, INDEX, () -> relay.insert(2, at, 'a'));
        }
        Check.refuses(relay, "insert at 1 into nothing", INDEX, () -> relay.insert(1, 1, 'a'));
    }

    private static void delete() {
        Relay relay = Scenes.settledWith("abcd");
        Check.same("delete in the middle", (int) 'b', relay.delete(3, 1));
        Check.same("delete at the end", (int) 'd', relay.delete(3, 2));
        Check.same("delete at the start", (int) 'a', relay.delete(3, 0));
        Check.same("what is left", "c", Check.textOf(relay, 3));
        Check.same("the others have all", "abcd", Check.textOf(relay, 0));
        for (int client : NO_CLIENTS) {
            Check.refuses(relay, "delete by " + client, ARGUMENT, () -> relay.delete(client, 0));
            Check.refuses(relay, "delete by " + client + " at -1", ARGUMENT, () -> relay.delete(client, -1));
        }
        for (int at : new int[] {-1, 1, 2, Integer.MIN_VALUE, Integer.MAX_VALUE}) {
            Check.refuses(relay, "delete at " + at, INDEX, () -> relay.delete(3, at));
        }
        Scenes.handOn(relay);
        texts(relay, "handed on", "c");
        Check.same("the last letter", (int) 'c', relay.delete(1, 0));
        Check.refuses(relay, "delete from nothing", INDEX, () -> relay.delete(1, 0));

        Relay open = Scenes.settledWith("ab");
        Scenes.nod(open, 2, 16 - open.open(2, true));
        Check.refuses(open, "delete with 16 open", UNSUPPORTED, () -> open.delete(2, 0));
        Check.refuses(open, "delete at 2 with 16 open", INDEX, () -> open.delete(2, 2));
        Check.refuses(open, "delete by 4 with 16 open", ARGUMENT, () -> open.delete(4, 2));
    }

    private static void nod() {
        Relay relay = Scenes.settledWith("ab");
        String before = Check.textOf(relay, 1);
        int open = relay.open(1, true);
        relay.nod(1);
        Check.same("the text of one that nods", before, Check.textOf(relay, 1));
        Check.same("a nod waits", 1, relay.waiting(1, true));
        Check.same("a nod is open", open + 1, relay.open(1, true));
        Check.same("a nod as a change", 2001, relay.change(1, true, open));
        Check.same("a nod at the server", EditRelay.NOTHING, relay.push(1));
        Check.same("a nod handed on to 2", EditRelay.NOTHING, relay.pull(2));
        Check.same("a nod handed on to 3", EditRelay.NOTHING, relay.pull(3));
        texts(relay, "a nod", "ab");
        for (int client : NO_CLIENTS) {
            Check.refuses(relay, "nod by " + client, ARGUMENT, () -> relay.nod(client));
        }
        Scenes.nod(relay, 1, 16 - relay.open(1, true));
        Check.same("16 open nods", 16, relay.open(1, true));
        Check.refuses(relay, "nod with 16 open", UNSUPPORTED, () -> relay.nod(1));
    }

    private static void push() {
        Relay relay = new Relay();
        relay.insert(2, 0, 'a');
        relay.insert(2, 1, 'b');
        relay.delete(2, 0);
        relay.nod(2);
        Check.same("push an insert", EditRelay.INSERT, relay.push(2));
        Check.same("the oldest first", "a", Check.textOf(relay, 0));
        Check.same("handed on to the others alone", List.of(1, 0, 1),
                List.of(relay.waiting(1, false), relay.waiting(2, false), relay.waiting(3, false)));
        Check.same("push the next", EditRelay.INSERT, relay.push(2));
        Check.same("the server's text", "ab", Check.textOf(relay, 0));
        Check.same("push a delete", EditRelay.DELETE, relay.push(2));
        Check.same("the server's text behind it", "b", Check.textOf(relay, 0));
        Check.same("push a nod", EditRelay.NOTHING, relay.push(2));
        Check.same("open towards 1", List.of(2, 12, 1002, 2002), Check.openOf(relay, 1, false));
        Check.same("open towards 3", List.of(2, 12, 1002, 2002), Check.openOf(relay, 3, false));
        Check.same("open towards 2", List.of(), Check.openOf(relay, 2, false));
        Check.same("the client's row stays", 4, relay.open(2, true));
        for (int client = 1; client <= 3; client++) {
            int silent = client;
            Check.refuses(relay, "push without a message of " + client, STATE, () -> relay.push(silent));
        }
        for (int client : NO_CLIENTS) {
            Check.refuses(relay, "push of " + client, ARGUMENT, () -> relay.push(client));
        }
        Scenes.handOn(relay);
        relay.delete(1, 0);
        relay.delete(3, 0);
        Check.same("the first delete of a letter", EditRelay.DELETE, relay.push(3));
        Check.same("a delete that has become nothing", EditRelay.NOTHING, relay.push(1));
        Check.same("is handed on as such", 2001, relay.change(2, false, 1));
    }

    private static void pull() {
        Relay relay = new Relay();
        relay.insert(3, 0, 'a');
        relay.insert(3, 1, 'b');
        relay.delete(3, 0);
        relay.nod(3);
        Check.refuses(relay, "pull before the server has it", STATE, () -> relay.pull(1));
        Scenes.pushAll(relay, 3);
        Check.same("pull an insert", EditRelay.INSERT, relay.pull(1));
        Check.same("the oldest first", "a", Check.textOf(relay, 1));
        Check.same("pull the next", EditRelay.INSERT, relay.pull(1));
        Check.same("the text", "ab", Check.textOf(relay, 1));
        Check.same("pull a delete", EditRelay.DELETE, relay.pull(1));
        Check.same("the text behind it", "b", Check.textOf(relay, 1));
        Check.same("pull a nod", EditRelay.NOTHING, relay.pull(1));
        Check.same("the other client is untouched", "", Check.textOf(relay, 2));
        Check.refuses(relay, "pull without a message", STATE, () -> relay.pull(1));
        Check.refuses(relay, "pull by the one who sent", STATE, () -> relay.pull(3));
        for (int client : NO_CLIENTS) {
            Check.refuses(relay, "pull by " + client, ARGUMENT, () -> relay.pull(client));
        }
        Scenes.handOn(relay);
        relay.delete(1, 0);
        relay.delete(2, 0);
        relay.push(1);
        Check.same("a delete that has become nothing", EditRelay.NOTHING, relay.pull(2));
        Check.same("and the open one too", List.of(2002), Check.openOf(relay, 2, true));
    }

    private static void waiting() {
        Relay relay = new Relay();
        Scenes.nod(relay, 1, 3);
        relay.nod(2);
        Check.same("up", List.of(3, 1, 0), ofAll(relay::waiting, true));
        Check.same("down", List.of(0, 0, 0), ofAll(relay::waiting, false));
        Scenes.pushAll(relay, 1);
        relay.push(2);
        Check.same("up, all got", List.of(0, 0, 0), ofAll(relay::waiting, true));
        Check.same("down, all handed on", List.of(1, 3, 4), ofAll(relay::waiting, false));
        relay.pull(3);
        Check.same("down, one got", List.of(1, 3, 3), ofAll(relay::waiting, false));
        refusesNoClients(relay, "waiting", relay::waiting);
    }

    private static void got() {
        Relay relay = new Relay();
        Scenes.nod(relay, 1, 3);
        relay.nod(2);
        Check.same("up, nothing got", List.of(0, 0, 0), ofAll(relay::got, true));
        relay.push(1);
        relay.push(1);
        relay.push(2);
        Check.same("up", List.of(2, 1, 0), ofAll(relay::got, true));
        Check.same("down, nothing got", List.of(0, 0, 0), ofAll(relay::got, false));
        Scenes.pullAll(relay, 3);
        relay.pull(2);
        Check.same("down", List.of(0, 1, 3), ofAll(relay::got, false));
        Check.same("up as before", List.of(2, 1, 0), ofAll(relay::got, true));
        refusesNoClients(relay, "got", relay::got);
    }

    private static void open() {
        Relay relay = new Relay();
        Scenes.nod(relay, 1, 3);
        relay.nod(2);
        Check.same("up", List.of(3, 1, 0), ofAll(relay::open, true));
        Check.same("down", List.of(0, 0, 0), ofAll(relay::open, false));
        Scenes.pushAll(relay, 1);
        relay.push(2);
        Check.same("up, got but not known", List.of(3, 1, 0), ofAll(relay::open, true));
        Check.same("down, handed on", List.of(1, 3, 4), ofAll(relay::open, false));
        relay.pull(1);
        Check.same("up, known to 1", List.of(0, 1, 0), ofAll(relay::open, true));
        Scenes.pullAll(relay, 2);
        Check.same("2 has not heard of its own", List.of(0, 1, 0), ofAll(relay::open, true));
        Check.same("down, got but not known", List.of(1, 3, 4), ofAll(relay::open, false));
        relay.nod(2);
        relay.push(2);
        Check.same("down, known with the nod of 2", List.of(2, 0, 5), ofAll(relay::open, false));
        refusesNoClients(relay, "open", relay::open);
    }

    private static void change() {
        Relay relay = new Relay();
        relay.insert(3, 0, 'a');
        relay.insert(3, 1, 'b');
        relay.insert(3, 2, 'c');
        relay.delete(3, 1);
        relay.nod(3);
        Check.same("as made", List.of(3, 13, 23, 1013, 2003), Check.openOf(relay, 3, true));
        relay.insert(2, 0, 'x');
        relay.push(2);
        relay.pull(3);
        Check.same("fitted to a lesser origin's insert", List.of(13, 23, 33, 1023, 2003), Check.openOf(relay, 3, true));
        Scenes.pushAll(relay, 3);
        Check.same("towards 1, by two origins", List.of(2, 13, 23, 33, 1023, 2003), Check.openOf(relay, 1, false));
        Check.same("towards 3", List.of(2), Check.openOf(relay, 3, false));
        for (int i : new int[] {-1, 6, 24, Integer.MIN_VALUE, Integer.MAX_VALUE}) {
            Check.refuses(relay, "change " + i + " down", INDEX, () -> relay.change(1, false, i));
        }
        for (int i : new int[] {-1, 5, 16, Integer.MIN_VALUE, Integer.MAX_VALUE}) {
            Check.refuses(relay, "change " + i + " up", INDEX, () -> relay.change(3, true, i));
        }
        Check.refuses(relay, "change 0 of none", INDEX, () -> relay.change(1, true, 0));
        for (int client : NO_CLIENTS) {
            Check.refuses(relay, "change of " + client, ARGUMENT, () -> relay.change(client, true, 0));
            Check.refuses(relay, "change -1 of " + client, ARGUMENT, () -> relay.change(client, false, -1));
        }
        relay.nod(1);
        Scenes.pullAll(relay, 1);
        relay.nod(1);
        relay.push(1);
        Check.same("the first nod tells of nothing", 6, relay.open(1, false));
        relay.push(1);
        Check.same("the second of all", 0, relay.open(1, false));
    }

    private static void size() {
        Relay relay = new Relay();
        relay.insert(1, 0, 'a');
        relay.insert(1, 0, 'b');
        relay.push(1);
        relay.pull(3);
        Check.same("sizes", List.of(1, 2, 0, 1), List.of(relay.size(0), relay.size(1), relay.size(2), relay.size(3)));
        relay.delete(3, 0);
        Check.same("behind a delete", 0, relay.size(3));
        for (int site : NO_SITES) {
            Check.refuses(relay, "size of " + site, ARGUMENT, () -> relay.size(site));
        }
    }

    private static void letter() {
        Relay relay = new Relay();
        relay.insert(1, 0, 'b');
        relay.insert(1, 0, 'a');
        relay.push(1);
        relay.pull(2);
        relay.insert(2, 1, '~');
        Check.same("letter 0 of 1", 97, relay.letter(1, 0));
        Check.same("letter 1 of 1", 98, relay.letter(1, 1));
        Check.same("letter 0 of the server", 98, relay.letter(0, 0));
        Check.same("letter 1 of 2", 126, relay.letter(2, 1));
        for (int at : new int[] {-1, 2, 63, 64, Integer.MIN_VALUE, Integer.MAX_VALUE}) {
            Check.refuses(relay, "letter " + at, INDEX, () -> relay.letter(1, at));
        }
        Check.refuses(relay, "letter 0 of nothing", INDEX, () -> relay.letter(3, 0));
        relay.delete(1, 1);
        Check.refuses(relay, "a deleted letter", INDEX, () -> relay.letter(1, 1));
        for (int site : NO_SITES) {
            Check.refuses(relay, "letter of " + site, ARGUMENT, () -> relay.letter(site, 0));
            Check.refuses(relay, "letter -1 of " + site, ARGUMENT, () -> relay.letter(site, -1));
        }
    }

    private static void alike() {
        for (int client = 1; client <= 3; client++) {
            Relay relay = new Relay();
            relay.insert(client, 0, 'a');
            Check.same("one differs", false, relay.alike());
            relay.push(client);
            Check.same("two differ", false, relay.alike());
            relay.pull(client % 3 + 1);
            Check.same("one lacks", false, relay.alike());
            relay.pull((client + 1) % 3 + 1);
            Check.same("all have it", true, relay.alike());
            relay.nod(client);
            Check.same("alike with a nod under way", true, relay.alike());
        }
        Relay relay = new Relay();
        Scenes.insert(relay, 1, 2);
        Scenes.insert(relay, 2, 2);
        Scenes.insert(relay, 3, 2);
        Check.same("the server lacks", false, relay.alike());
        Relay other = Scenes.settledWith("abc");
        other.delete(2, 2);
        other.insert(2, 2, 'd');
        Check.same("as long but not the same", false, other.alike());
        other.delete(2, 2);
        other.insert(2, 2, 'c');
        Check.same("the same again", true, other.alike());
        Check.same("though messages wait", false, other.quiet());
    }

    private static void quiet() {
        for (int client = 1; client <= 3; client++) {
            Relay relay = new Relay();
            Check.same("at first", true, relay.quiet());
            relay.nod(client);
            Check.same("one waits up", false, relay.quiet());
            relay.push(client);
            Check.same("two wait down", false, relay.quiet());
            relay.pull(client % 3 + 1);
            Check.same("one waits down", false, relay.quiet());
            relay.pull((client + 1) % 3 + 1);
            Check.same("none waits", true, relay.quiet());
            Check.same("though some are open", 1, relay.open(client, true));
        }
    }

    private static void objectsApart() {
        Relay one = new Relay();
        Relay two = new Relay();
        String before = Check.stateOf(two);
        one.insert(1, 0, 'a');
        one.push(1);
        one.pull(2);
        Check.same("another object", before, Check.stateOf(two));
    }

    private static void theExampleOfTheReadme() {
        Relay relay = new Relay();
        Check.same("insert by 1", 1, relay.insert(1, 0, 'a'));
        Check.same("insert by 2", 1, relay.insert(2, 0, 'b'));
        Check.same("push of 1", EditRelay.INSERT, relay.push(1));
        Check.same("push of 2", EditRelay.INSERT, relay.push(2));
        Check.same("pull by 1", EditRelay.INSERT, relay.pull(1));
        Check.same("pull by 2", EditRelay.INSERT, relay.pull(2));
        Check.same("first pull by 3", EditRelay.INSERT, relay.pull(3));
        Check.same("second pull by 3", EditRelay.INSERT, relay.pull(3));
        Check.same("alike", true, relay.alike());
        Check.same("quiet", true, relay.quiet());
        texts(relay, "the example of README.md", "ab");
        Check.same("open on the side of 1", List.of(), Check.openOf(relay, 1, true));
        Check.same("open on the side of 2", List.of(12), Check.openOf(relay, 2, true));
        relay.nod(1);
        relay.push(1);
        relay.pull(2);
        Check.same("open on the side of 2, told by the nod of 1", List.of(), Check.openOf(relay, 2, true));
    }

    // ---- helpers for what is asked by client and direction

    private interface Question {
        int ask(int client, boolean up);
    }

    private static List<Integer> ofAll(Question question, boolean up) {
        return List.of(question.ask(1, up), question.ask(2, up), question.ask(3, up));
    }

    private static void refusesNoClients(Relay relay, String what, Question question) {
        for (int client : NO_CLIENTS) {
            Check.refuses(relay, what + " up of " + client, ARGUMENT, () -> question.ask(client, true));
            Check.refuses(relay, what + " down of " + client, ARGUMENT, () -> question.ask(client, false));
        }
    }
}
