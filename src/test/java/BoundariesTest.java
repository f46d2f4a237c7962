import java.util.List;

/**
 * The boundary cases of the promises: a test for each sentence that names one (too small, too large, empty,
 * full, a refused call). The sentence stands above its test.
 */
public final class BoundariesTest {
    private static final Class<IllegalArgumentException> ARGUMENT = IllegalArgumentException.class;
    private static final Class<IndexOutOfBoundsException> INDEX = IndexOutOfBoundsException.class;
    private static final Class<IllegalStateException> STATE = IllegalStateException.class;
    private static final Class<UnsupportedOperationException> UNSUPPORTED = UnsupportedOperationException.class;
    private static final int[] NO_CLIENTS = {0, 4, -1, 5, 257, Integer.MIN_VALUE, Integer.MAX_VALUE};
    private static final int[] NO_SITES = {-1, 4, 5, 256, Integer.MIN_VALUE, Integer.MAX_VALUE};
    private static final boolean[] DIRECTIONS = {true, false};

    public static void main(String[] args) {
        noClient();
        noSite();
        everyClientAndSite();
        orderOfExceptions();
        newObject();
        insertAnswersHowMany();
        insertNoLetter();
        insertAtNoPlace();
        insertWithFortyLetters();
        insertWithSixteenOpen();
        deleteAnswersTheCode();
        deleteNoLetter();
        deleteWithSixteenOpen();
        nodChangesNoText();
        nodWithSixteenOpen();
        whatCountsAsOpen();
        pushWhenNoneWaits();
        pushWithTwentyFourOpen();
        pushWithTwentyFourWaiting();
        pushTowardsItself();
        pushAnswersWhatIsDone();
        aRefusedPushMayBeMadeLater();
        allJammed();
        twoThatAreFullJamAll();
        pullWhenNoneWaits();
        pullAnswersWhatIsDone();
        pullHasNoLimit();
        waitingFromNoneToFull();
        gotGrowsOnAndOn();
        openFromNoneToFull();
        changeOfNoOpenOne();
        changeAsItIsTold();
        sizeFromNoneToMost();
        letterWhereNoneIs();
        letterFromLeastToGreatest();
        alikeWithOneSiteApart();
        alikeByLetters();
        alikeWhileMessagesWait();
        quietWithOneMessage();
        rowsGoRound();
        theLastOfAllCalls();
        Check.end("BoundariesTest");
    }

    // ---- Terms: "IllegalArgumentException: a client is not 1 .. 3, or a site not 0 .. 3 (or as said)."

    private static void noClient() {
        Relay relay = busy();
        for (int client : NO_CLIENTS) {
            String by = " by " + client;
            Check.refuses(relay, "insert" + by, ARGUMENT, () -> relay.insert(client, 0, 'a'));
            Check.refuses(relay, "delete" + by, ARGUMENT, () -> relay.delete(client, 0));
            Check.refuses(relay, "nod" + by, ARGUMENT, () -> relay.nod(client));
            Check.refuses(relay, "push" + by, ARGUMENT, () -> relay.push(client));
            Check.refuses(relay, "pull" + by, ARGUMENT, () -> relay.pull(client));
            for (boolean up : DIRECTIONS) {
                String of = " of " + client + (up ? " up" : " down");
                Check.refuses(relay, "waiting" + of, ARGUMENT, () -> relay.waiting(client, up));
                Check.refuses(relay, "got" + of, ARGUMENT, () -> relay.got(client, up));
                Check.refuses(relay, "open" + of, ARGUMENT, () -> relay.open(client, up));
                Check.refuses(relay, "change" + of, ARGUMENT, () -> relay.change(client, up, 0));
            }
        }
    }

    private static void noSite() {
        Relay relay = busy();
        for (int site : NO_SITES) {
            Check.refuses(relay, "size of " + site, ARGUMENT, () -> relay.size(site));
            Check.refuses(relay, "letter of " + site, ARGUMENT, () -> relay.letter(site, 0));
        }
    }

    private static void everyClientAndSite() {
        for (int client = 1; client <= 3; client++) {
            Relay relay = busy();
            Check.same("insert by " + client, 3, relay.insert(client, 0, 'z'));
            Check.same("delete by " + client, (int) 'z', relay.delete(client, 0));
            relay.nod(client);
            Check.same("waiting for " + client, 2, relay.waiting(client, false));
            Check.same("waiting of " + client, 4, relay.waiting(client, true));
            Check.same("push by " + client, EditRelay.INSERT, relay.push(client));
            Check.same("pull by " + client, EditRelay.INSERT, relay.pull(client));
            Check.same("got of " + client, 2, relay.got(client, true));
            Check.same("got for " + client, 1, relay.got(client, false));
            Check.same("open of " + client, true, relay.open(client, true) > 0);
            Check.same("change of " + client, client, relay.change(client, true, 0) % 10);
        }
        Relay relay = busy();
        for (int site = 0; site <= 3; site++) {
            Check.same("size of " + site, site == 0 ? 3 : 2, relay.size(site));
            Check.same("letter of " + site, (int) (site == 0 ? 'a' : (char) ('a' + site - 1)), relay.letter(site, 0));
        }
    }

    /** Each client has two letters of its own, and the server has got one of each: messages wait in all lines. */
    private static Relay busy() {
        Relay relay = new Relay();
        for (int client = 1; client <= 3; client++) {
            relay.insert(client, 0, (char) ('a' + client - 1));
            relay.insert(client, 1, 'x');
        }
        for (int client = 1; client <= 3; client++) {
            relay.push(client);
        }
        return relay;
    }

    // ---- Terms: "exceptions are looked at in the order of the throws clause."

    private static void orderOfExceptions() {
        Relay full = fullTextAndRow();
        Check.refuses(full, "insert: no client, no letter", ARGUMENT, () -> full.insert(0, 0, '\n'));
        Check.refuses(full, "insert: no client, no place", ARGUMENT, () -> full.insert(4, -1, 'a'));
        Check.refuses(full, "insert: no letter, no place", ARGUMENT, () -> full.insert(1, 99, (char) 127));
        Check.refuses(full, "insert: no letter, full", ARGUMENT, () -> full.insert(2, 0, (char) 127));
        Check.refuses(full, "insert: no letter, no place, full", ARGUMENT, () -> full.insert(2, -1, (char) 31));
        Check.refuses(full, "insert: no place below, full", INDEX, () -> full.insert(2, -1, 'a'));
        Check.refuses(full, "insert: no place above, full", INDEX, () -> full.insert(2, 41, 'a'));
        Check.refuses(full, "insert: full", UNSUPPORTED, () -> full.insert(2, 40, 'a'));
        Check.refuses(full, "delete: no client, no letter there", ARGUMENT, () -> full.delete(4, 99));
        Check.refuses(full, "delete: no letter below, full", INDEX, () -> full.delete(2, -1));
        Check.refuses(full, "delete: no letter there, full", INDEX, () -> full.delete(2, 40));
        Check.refuses(full, "delete: full", UNSUPPORTED, () -> full.delete(2, 39));

        Relay jammed = Scenes.jammed();
        for (int client : NO_CLIENTS) {
            Check.refuses(jammed, "nod: no client, all full", ARGUMENT, () -> jammed.nod(client));
            Check.refuses(jammed, "push: no client, all full", ARGUMENT, () -> jammed.push(client));
        }
        for (int full24 = 1; full24 <= 3; full24++) {
            Relay silent = Scenes.openTowards(full24, 24);
            int one = Scenes.lesserOther(full24);
            int two = Scenes.greaterOther(full24);
            Check.refuses(silent, "push: none waits, 24 towards " + full24, STATE, () -> silent.push(one));
            Check.refuses(silent, "push: none waits, 24 towards " + full24, STATE, () -> silent.push(two));
        }
        Relay fresh = new Relay();
        for (int client : NO_CLIENTS) {
            Check.refuses(fresh, "push: no client, none waits", ARGUMENT, () -> fresh.push(client));
            Check.refuses(fresh, "pull: no client, none waits", ARGUMENT, () -> fresh.pull(client));
            Check.refuses(fresh, "change: no client, none open", ARGUMENT, () -> fresh.change(client, true, 0));
            Check.refuses(fresh, "change: no client, below", ARGUMENT, () -> fresh.change(client, false, -1));
        }
        for (int site : NO_SITES) {
            Check.refuses(fresh, "letter: no site, empty", ARGUMENT, () -> fresh.letter(site, 0));
            Check.refuses(fresh, "letter: no site, below", ARGUMENT, () -> fresh.letter(site, -1));
        }
    }

    /** Client 2 has 40 letters, and 16 changes of it are open. */
    private static Relay fullTextAndRow() {
        Relay relay = Scenes.settledWith(38);
        Scenes.nodAndHandOn(relay, 1);
        relay.insert(2, 0, 'x');
        relay.insert(2, 0, 'y');
        Scenes.nod(relay, 2, 16 - relay.open(2, true));
        return relay;
    }

    // ---- Promise 1: "All texts are empty, nothing is sent."

    private static void newObject() {
        Relay relay = new Relay();
        Check.same("a new object",
                "\"\" \"\" \"\" \"\" 1 up 0 0 [] 1 down 0 0 [] 2 up 0 0 [] 2 down 0 0 [] 3 up 0 0 [] 3 down 0 0 [] true true",
                Check.stateOf(relay));
        for (int client = 1; client <= 3; client++) {
            int one = client;
            Check.refuses(relay, "delete of nothing by " + client, INDEX, () -> relay.delete(one, 0));
            Check.refuses(relay, "push of nothing by " + client, STATE, () -> relay.push(one));
            Check.refuses(relay, "pull of nothing by " + client, STATE, () -> relay.pull(one));
            for (boolean up : DIRECTIONS) {
                Check.refuses(relay, "change 0 of none, " + client, INDEX, () -> relay.change(one, up, 0));
            }
        }
        for (int site = 0; site <= 3; site++) {
            int one = site;
            Check.refuses(relay, "letter 0 of nothing, " + site, INDEX, () -> relay.letter(one, 0));
        }
    }

    // ---- Promise 2

    /** "Answers how many letters it has then." */
    private static void insertAnswersHowMany() {
        for (int client = 1; client <= 3; client++) {
            Relay relay = Scenes.settledWith(24);
            Scenes.nodAndHandOn(relay, 1);
            int other = Scenes.lesserOther(client);
            Scenes.insert(relay, other, 3);
            for (int due = 25; due <= 36; due++) {
                Check.same("the letters of " + client + ", not of the others", due, relay.insert(client, due - 1, 'z'));
            }
        }
        Check.same("the first letter", 1, new Relay().insert(3, 0, 'z'));
        Check.same("the 40th letter", 40, Scenes.settledWith(39).insert(2, 39, 'z'));
    }

    /** "IllegalArgumentException also when the letter is none" (codes 32 .. 126). */
    private static void insertNoLetter() {
        Relay relay = Scenes.startingWith("ab");
        for (int letter : new int[] {0, 9, 10, 31, 127, 128, 160, 255, 256 + 'a', 0x8000, 0xFFFF}) {
            Check.refuses(relay, "letter " + letter, ARGUMENT, () -> relay.insert(1, 0, (char) letter));
        }
        for (int letter = 32; letter <= 126; letter++) {
            Relay one = new Relay();
            Check.same("letter " + letter, 1, one.insert(1, 0, (char) letter));
            Scenes.handOn(one);
            for (int site = 0; site <= 3; site++) {
                Check.same("letter " + letter + " at " + site, letter, one.letter(site, 0));
            }
            Check.same("letter " + letter + " deleted", letter, one.delete(3, 0));
        }
    }

    /** "IndexOutOfBoundsException when at is not 0 .. its number of letters." */
    private static void insertAtNoPlace() {
        for (int client = 1; client <= 3; client++) {
            int one = client;
            Relay relay = Scenes.startingWith("abc");
            // The others' texts are longer: it is the client's own number that counts.
            relay.insert(Scenes.lesserOther(client), 0, 'x');
            relay.insert(Scenes.greaterOther(client), 0, 'y');
            Scenes.handUp(relay);
            for (int at : new int[] {-1, 4, 5, 6, 40, 64, 65, 256, Integer.MIN_VALUE, Integer.MAX_VALUE}) {
                Check.refuses(relay, "insert at " + at + " of 3", INDEX, () -> relay.insert(one, at, 'z'));
            }
            Check.same("at its number of letters", 4, relay.insert(client, 3, 'z'));
            Check.same("to the end", "abcz", Check.textOf(relay, client));
            Check.same("at 0", 5, relay.insert(client, 0, 'y'));
            Check.same("to the start", "yabcz", Check.textOf(relay, client));
            Check.same("before the letter that is at the place", 6, relay.insert(client, 4, 'w'));
            Check.same("between", "yabcwz", Check.textOf(relay, client));
            Relay empty = new Relay();
            Check.refuses(empty, "insert at 1 of none", INDEX, () -> empty.insert(one, 1, 'z'));
            Check.refuses(empty, "insert at -1 of none", INDEX, () -> empty.insert(one, -1, 'z'));
            Check.same("insert at 0 of none", 1, empty.insert(client, 0, 'z'));
        }
    }

    /** "UnsupportedOperationException when it has 40 or more." */
    private static void insertWithFortyLetters() {
        for (int client = 1; client <= 3; client++) {
            int one = client;
            int other = Scenes.greaterOther(client);
            Relay relay = Scenes.settledWith(39);
            Check.same("the 40th letter", 40, relay.insert(client, 0, 'z'));
            Check.refuses(relay, "a 41st letter", UNSUPPORTED, () -> relay.insert(one, 0, 'z'));
            Check.refuses(relay, "a 41st letter to the end", UNSUPPORTED, () -> relay.insert(one, 40, 'z'));
            Check.same("another client has 39 and may", 40, relay.insert(other, 0, 'y'));
            Scenes.handOn(relay);
            Check.same("41 letters together", 41, relay.size(client));
            Check.refuses(relay, "a 42nd letter", UNSUPPORTED, () -> relay.insert(one, 41, 'z'));
            relay.delete(client, 40);
            Check.refuses(relay, "a 41st letter with 40 again", UNSUPPORTED, () -> relay.insert(one, 0, 'z'));
            relay.delete(client, 0);
            Check.same("the 40th letter again", 40, relay.insert(client, 39, 'z'));
        }
        serverTextDoesNotCount();
    }

    /** It is the client's own text that counts, not the server's. */
    private static void serverTextDoesNotCount() {
        Relay relay = Scenes.settledWith(36);
        Scenes.insert(relay, 1, 4);
        Scenes.insert(relay, 2, 4);
        Scenes.handUp(relay);
        Check.same("the server's letters", 44, relay.size(0));
        Check.same("client 3 has got none of them", 37, relay.insert(3, 0, 'z'));
    }

    /** "UnsupportedOperationException when it has .. 16 open changes." */
    private static void insertWithSixteenOpen() {
        for (int client = 1; client <= 3; client++) {
            int one = client;
            Relay relay = new Relay();
            Scenes.insert(relay, client, 15);
            Check.same("the 16th open change", 16, relay.insert(client, 0, 'x'));
            Check.refuses(relay, "insert with 16 open", UNSUPPORTED, () -> relay.insert(one, 0, 'x'));
            Check.same("another client may", 1, relay.insert(Scenes.lesserOther(client), 0, 'y'));
            makeKnown(relay, client);
            Check.same("with 15 open again", 18, relay.insert(client, 0, 'x'));
            Check.refuses(relay, "insert with 16 open again", UNSUPPORTED, () -> relay.insert(one, 0, 'x'));
        }
    }

    /** The server gets one message of the client and tells it so: of 16 open ones 15 stay. */
    private static void makeKnown(Relay relay, int client) {
        int other = Scenes.lesserOther(client);
        Scenes.pushAll(relay, other);
        relay.push(client);
        relay.nod(other);
        relay.push(other);
        Scenes.pullAll(relay, client);
        Check.same("open on the side of " + client, 15, relay.open(client, true));
    }

    // ---- Promise 3

    /** "Answers its code." */
    private static void deleteAnswersTheCode() {
        Relay relay = Scenes.startingWith("a ~z");
        Check.same("the least letter", 32, relay.delete(2, 1));
        Check.same("the greatest letter", 126, relay.delete(2, 1));
        Check.same("the last letter", (int) 'z', relay.delete(2, 1));
        Check.same("the first and only letter", (int) 'a', relay.delete(2, 0));
        Check.same("none is left", 0, relay.size(2));
        Check.same("the codes are of no other text", "a ~z", Check.textOf(relay, 0));
    }

    /** "IndexOutOfBoundsException when there is none." */
    private static void deleteNoLetter() {
        for (int client = 1; client <= 3; client++) {
            int one = client;
            Relay relay = Scenes.startingWith("abc");
            relay.insert(Scenes.lesserOther(client), 0, 'x');
            relay.insert(Scenes.greaterOther(client), 0, 'y');
            Scenes.handUp(relay);
            for (int at : new int[] {-1, 3, 4, 5, 63, 64, 256, Integer.MIN_VALUE, Integer.MAX_VALUE}) {
                Check.refuses(relay, "delete at " + at + " of 3", INDEX, () -> relay.delete(one, at));
            }
            Check.same("the last", (int) 'c', relay.delete(client, 2));
            Check.refuses(relay, "delete at 2 of 2", INDEX, () -> relay.delete(one, 2));
            Check.same("the first", (int) 'a', relay.delete(client, 0));
            Check.same("the only one", (int) 'b', relay.delete(client, 0));
            Check.refuses(relay, "delete at 0 of none", INDEX, () -> relay.delete(one, 0));
        }
    }

    /** "UnsupportedOperationException when it has 16 open changes." */
    private static void deleteWithSixteenOpen() {
        for (int client = 1; client <= 3; client++) {
            int one = client;
            Relay relay = Scenes.startingWith("abcd");
            Scenes.settle(relay);
            Scenes.nod(relay, client, 15 - relay.open(client, true));
            Check.same("the 16th open change", (int) 'b', relay.delete(client, 1));
            Check.refuses(relay, "delete with 16 open", UNSUPPORTED, () -> relay.delete(one, 0));
            Check.same("another client may", (int) 'a', relay.delete(Scenes.lesserOther(client), 0));
            letTheServerTell(relay, client);
            Check.same("with less open again", (int) 'd', relay.delete(client, relay.size(client) - 1));
        }
    }

    /** The server gets all of the client's messages, and tells it so with one that the client gets. */
    private static void letTheServerTell(Relay relay, int client) {
        int other = Scenes.lesserOther(client);
        Scenes.pushAll(relay, client);
        Scenes.pushAll(relay, other);
        Scenes.pullAll(relay, client);
    }

    // ---- Promise 4

    /** "A client makes the change NOTHING." */
    private static void nodChangesNoText() {
        Relay relay = Scenes.startingWith("ab");
        for (int client = 1; client <= 3; client++) {
            int open = relay.open(client, true);
            relay.nod(client);
            Check.same("one more is open", open + 1, relay.open(client, true));
            Check.same("it is nothing", 2000 + client, relay.change(client, true, open));
            Check.same("it waits", 1, relay.waiting(client, true));
        }
        Check.same("alike as before", true, relay.alike());
        Scenes.handOn(relay);
        Check.same("alike, handed on", true, relay.alike());
        Check.same("the text", "ab", Check.textOf(relay, 3));
    }

    /** "UnsupportedOperationException when it has 16 open changes." */
    private static void nodWithSixteenOpen() {
        for (int client = 1; client <= 3; client++) {
            int one = client;
            Relay relay = new Relay();
            Scenes.nod(relay, client, 15);
            relay.nod(client);
            Check.same("16 are open", 16, relay.open(client, true));
            Check.refuses(relay, "nod with 16 open", UNSUPPORTED, () -> relay.nod(one));
            relay.nod(Scenes.lesserOther(client));
            makeKnown(relay, client);
            relay.nod(client);
            Check.refuses(relay, "nod with 16 open again", UNSUPPORTED, () -> relay.nod(one));
        }
    }

    /** Open are all kinds, those that have become nothing too, and those that were got but are not known to be. */
    private static void whatCountsAsOpen() {
        Relay mixed = Scenes.startingWith("abcdefgh");
        Scenes.settle(mixed);
        for (int i = 0; i < 4; i++) {
            mixed.delete(1, 0);
            mixed.delete(2, 0);
            mixed.nod(1);
            mixed.insert(1, 0, 'x');
            mixed.delete(1, 0);
        }
        Scenes.pushAll(mixed, 2);
        Scenes.pullAll(mixed, 1);
        Check.same("open", List.of(2001, 2001, 1, 1001), Check.openOf(mixed, 1, true).subList(0, 4));
        Check.same("16 of all kinds", 16, mixed.open(1, true));
        refusesAll(mixed, "16 of all kinds are open");
        Scenes.push(mixed, 1, 16);
        Check.same("none waits", 0, mixed.waiting(1, true));
        refusesAll(mixed, "16 are got, but not known to be");
        mixed.nod(2);
        mixed.push(2);
        refusesAll(mixed, "16 will be known with a message that waits");
        mixed.pull(1);
        Check.same("all are known", 0, mixed.open(1, true));
        mixed.nod(1);
    }

    private static void refusesAll(Relay relay, String what) {
        Check.refuses(relay, what + ": insert", UNSUPPORTED, () -> relay.insert(1, 0, 'x'));
        Check.refuses(relay, what + ": delete", UNSUPPORTED, () -> relay.delete(1, 0));
        Check.refuses(relay, what + ": nod", UNSUPPORTED, () -> relay.nod(1));
    }

    // ---- Promise 5

    /** "IllegalStateException when none waits." */
    private static void pushWhenNoneWaits() {
        for (int client = 1; client <= 3; client++) {
            int one = client;
            int other = Scenes.lesserOther(client);
            Relay relay = new Relay();
            Check.refuses(relay, "push at first", STATE, () -> relay.push(one));
            relay.nod(other);
            Check.refuses(relay, "push while another's waits", STATE, () -> relay.push(one));
            relay.push(other);
            Check.refuses(relay, "push while one waits for it", STATE, () -> relay.push(one));
            relay.nod(client);
            Check.same("push of the only one", EditRelay.NOTHING, relay.push(client));
            Check.refuses(relay, "push of one that is open but got", STATE, () -> relay.push(one));
        }
    }

    /** "UnsupportedOperationException when it has 24 open changes .. towards one of the other two." */
    private static void pushWithTwentyFourOpen() {
        for (int full = 1; full <= 3; full++) {
            int one = Scenes.lesserOther(full);
            int two = Scenes.greaterOther(full);
            Relay relay = Scenes.openTowards(full, 23);
            Scenes.pullAll(relay, full);
            relay.nod(one);
            Check.same("the 24th open towards " + full, EditRelay.NOTHING, relay.push(one));
            Check.same("24 are open", 24, relay.open(full, false));
            Check.same("one waits", 1, relay.waiting(full, false));
            relay.nod(one);
            relay.nod(two);
            Check.refuses(relay, "push of " + one + ", 24 towards " + full, UNSUPPORTED, () -> relay.push(one));
            Check.refuses(relay, "push of " + two + ", 24 towards " + full, UNSUPPORTED, () -> relay.push(two));
            relay.pull(full);
            Check.refuses(relay, "push, all 24 are got but not known", UNSUPPORTED, () -> relay.push(two));
            relay.nod(full);
            Check.refuses(relay, "push, the nod that tells still waits", UNSUPPORTED, () -> relay.push(two));
            relay.push(full);
            Check.same("push, all are known", EditRelay.NOTHING, relay.push(two));
            Check.same("one is open", 1, relay.open(full, false));
        }
    }

    /** "UnsupportedOperationException when it has .. 24 messages waiting, towards one of the other two." */
    private static void pushWithTwentyFourWaiting() {
        for (int full = 1; full <= 3; full++) {
            int one = Scenes.lesserOther(full);
            int two = Scenes.greaterOther(full);
            Relay relay = Scenes.openTowards(full, 23);
            relay.nod(two);
            Check.same("the 24th waiting for " + full, EditRelay.NOTHING, relay.push(two));
            Check.same("24 wait", 24, relay.waiting(full, false));
            relay.nod(one);
            relay.nod(two);
            Check.refuses(relay, "push of " + one + ", 24 wait for " + full, UNSUPPORTED, () -> relay.push(one));
            Check.refuses(relay, "push of " + two + ", 24 wait for " + full, UNSUPPORTED, () -> relay.push(two));
        }
    }

    /** "towards one of the other two": what is open towards the client itself does not hinder. */
    private static void pushTowardsItself() {
        for (int full = 1; full <= 3; full++) {
            Relay relay = Scenes.openTowards(full, 24);
            relay.nod(full);
            Check.same("push of " + full + ", 24 open towards itself", EditRelay.NOTHING, relay.push(full));
            Check.same("they stay, it had got none", 24, relay.open(full, false));
            Check.same("and wait", 24, relay.waiting(full, false));
        }
    }

    /** "Answers the kind of the change that it has done." */
    private static void pushAnswersWhatIsDone() {
        Relay relay = Scenes.startingWith("ab");
        relay.delete(1, 1);
        relay.delete(2, 1);
        relay.delete(3, 1);
        relay.insert(3, 1, 'c');
        Check.same("the first delete", EditRelay.DELETE, relay.push(2));
        Check.same("the second, become nothing", EditRelay.NOTHING, relay.push(3));
        Check.same("the third, become nothing", EditRelay.NOTHING, relay.push(1));
        Check.same("an insert", EditRelay.INSERT, relay.push(3));
        Check.same("the server's text", "ac", Check.textOf(relay, 0));
    }

    /** "A call that throws changes nothing": the message waits on, and is got later as it would have been. */
    private static void aRefusedPushMayBeMadeLater() {
        Relay relay = Scenes.openTowards(3, 23);
        relay.insert(1, 0, 'a');
        // The refused message would tell the server that all towards 1 is got.
        Scenes.pullAll(relay, 1);
        relay.insert(1, 1, 'b');
        relay.push(1);
        Check.same("open towards 1", 12, relay.open(1, false));
        Check.refuses(relay, "the insert of the b", UNSUPPORTED, () -> relay.push(1));
        Check.same("the server has the a", "a", Check.textOf(relay, 0));
        Check.same("no more has come to 2", List.of(2001, 1), Check.lastOpenOf(relay, 2, false, 2));
        Scenes.pullAll(relay, 3);
        relay.insert(3, 0, 'z');
        relay.push(3);
        Check.same("the insert of the b, later", EditRelay.INSERT, relay.push(1));
        Check.same("now what 1 has got is known", List.of(3), Check.openOf(relay, 1, false));
        Check.same("behind the a", "zab", Check.textOf(relay, 0));
    }

    /** All that the limits stand for at once: then only what looks, and pull, goes on. */
    private static void allJammed() {
        Relay relay = Scenes.jammed();
        for (int client = 1; client <= 3; client++) {
            int one = client;
            Check.refuses(relay, "jammed: insert by " + client, UNSUPPORTED, () -> relay.insert(one, 0, 'a'));
            Check.refuses(relay, "jammed: nod by " + client, UNSUPPORTED, () -> relay.nod(one));
            Check.refuses(relay, "jammed: push by " + client, UNSUPPORTED, () -> relay.push(one));
        }
        Check.same("24 towards all", List.of(24, 24, 24), ofAll(relay::open, false));
        Check.same("16 of all", List.of(16, 16, 16), ofAll(relay::open, true));
        Check.same("pull goes on", EditRelay.NOTHING, relay.pull(2));
        Check.same("sent before anything of 2 was got", 16, relay.open(2, true));
        Check.same("pull goes on again", EditRelay.NOTHING, relay.pull(2));
        Check.same("sent when one of 2 was got", 15, relay.open(2, true));
        relay.nod(2);
    }

    /** Each of the three has one of the two among its other two. */
    private static void twoThatAreFullJamAll() {
        for (int free = 1; free <= 3; free++) {
            Relay relay = new Relay();
            int one = Scenes.lesserOther(free);
            int two = Scenes.greaterOther(free);
            Scenes.nod(relay, free, 16);
            Scenes.pushAll(relay, free);
            Scenes.nod(relay, one, 8);
            Scenes.nod(relay, two, 8);
            Scenes.handUp(relay);
            Check.same("open towards " + one, 24, relay.open(one, false));
            Check.same("open towards " + two, 24, relay.open(two, false));
            Check.same("open towards " + free, 16, relay.open(free, false));
            for (int client = 1; client <= 3; client++) {
                int each = client;
                Scenes.pullAll(relay, client);
                relay.nod(client);
                Check.refuses(relay, "push of " + client + ", only " + free + " is free", UNSUPPORTED, () -> relay.push(each));
            }
            Check.same("one of each waits on", List.of(1, 1, 1), ofAll(relay::waiting, true));
        }
    }

    // ---- Promise 6

    /** "IllegalStateException when none waits." */
    private static void pullWhenNoneWaits() {
        for (int client = 1; client <= 3; client++) {
            int one = client;
            int other = Scenes.lesserOther(client);
            int third = Scenes.greaterOther(client);
            Relay relay = new Relay();
            Check.refuses(relay, "pull at first", STATE, () -> relay.pull(one));
            relay.nod(client);
            Check.refuses(relay, "pull while its own waits up", STATE, () -> relay.pull(one));
            relay.push(client);
            Check.refuses(relay, "pull of its own", STATE, () -> relay.pull(one));
            relay.nod(other);
            Check.refuses(relay, "pull before the server has got it", STATE, () -> relay.pull(one));
            relay.push(other);
            Check.same("pull of the only one", EditRelay.NOTHING, relay.pull(client));
            Check.refuses(relay, "pull of one that is open but got", STATE, () -> relay.pull(one));
            Check.same("the third has both", 2, relay.waiting(third, false));
        }
    }

    /** "Answers the kind of the change that it has done." */
    private static void pullAnswersWhatIsDone() {
        Relay relay = Scenes.startingWith("ab");
        relay.delete(1, 1);
        relay.delete(2, 1);
        relay.insert(1, 0, 'c');
        Scenes.pushAll(relay, 1);
        Check.same("a delete, become nothing", EditRelay.NOTHING, relay.pull(2));
        Check.same("its own has become nothing too", List.of(2002), Check.openOf(relay, 2, true));
        Check.same("an insert", EditRelay.INSERT, relay.pull(2));
        Check.same("the delete is one for client 3", EditRelay.DELETE, relay.pull(3));
        Check.same("the text of 2", "ca", Check.textOf(relay, 2));
    }

    /** A pull is never refused because a row or a text is full. */
    private static void pullHasNoLimit() {
        Relay relay = fullTextAndRow();
        relay.insert(1, 0, 'p');
        relay.insert(3, 38, 'q');
        relay.push(1);
        relay.push(3);
        Check.same("with 40 letters and 16 open", EditRelay.INSERT, relay.pull(2));
        Check.same("the 41st letter", 41, relay.size(2));
        Check.same("with 41 letters", EditRelay.INSERT, relay.pull(2));
        Check.same("the 42nd letter", 42, relay.size(2));
    }

    // ---- Promises 7 to 9

    /** "How many messages wait in the line to the server (up) or from it." */
    private static void waitingFromNoneToFull() {
        for (int client = 1; client <= 3; client++) {
            Relay up = new Relay();
            for (int due = 0; due <= 16; due++) {
                Check.same("waiting up", due, up.waiting(client, true));
                Check.same("waiting down", List.of(0, 0, 0), ofAll(up::waiting, false));
                Scenes.nod(up, client, due < 16 ? 1 : 0);
            }
            for (int due = 16; due >= 0; due--) {
                Check.same("waiting up, while they are got", due, up.waiting(client, true));
                Scenes.push(up, client, due > 0 ? 1 : 0);
            }
            Relay down = Scenes.openTowards(client, 24);
            for (int due = 24; due >= 0; due--) {
                Check.same("waiting down, while they are got", due, down.waiting(client, false));
                Scenes.pull(down, client, due > 0 ? 1 : 0);
            }
        }
    }

    /** "How many messages were got through that line so far": beyond all that can wait or be open at once. */
    private static void gotGrowsOnAndOn() {
        Relay relay = new Relay();
        for (int round = 1; round <= 40; round++) {
            for (int client = 1; client <= 3; client++) {
                relay.nod(client);
                relay.push(client);
                relay.pull(client == 1 ? 3 : client - 1);
                relay.pull(client == 3 ? 1 : client + 1);
            }
            Check.same("got up, round " + round, List.of(round, round, round), ofAll(relay::got, true));
            int twice = 2 * round;
            Check.same("got down, round " + round, List.of(twice, twice, twice), ofAll(relay::got, false));
        }
    }

    /** "How many changes are open on the client's side (up) or on the server's side towards it." */
    private static void openFromNoneToFull() {
        for (int client = 1; client <= 3; client++) {
            int other = Scenes.greaterOther(client);
            Relay up = new Relay();
            for (int due = 0; due <= 16; due++) {
                Check.same("open up", due, up.open(client, true));
                Scenes.nod(up, client, due < 16 ? 1 : 0);
            }
            Scenes.pushAll(up, client);
            Check.same("open up, got", 16, up.open(client, true));
            up.nod(other);
            up.push(other);
            Check.same("open up, told", 16, up.open(client, true));
            up.pull(client);
            Check.same("open up, known", 0, up.open(client, true));

            for (int due = 0; due <= 24; due++) {
                Check.same("open down", due, Scenes.openTowards(client, due).open(client, false));
            }
            Relay down = Scenes.openTowards(client, 24);
            Scenes.pullAll(down, client);
            Check.same("open down, got", 24, down.open(client, false));
            down.nod(client);
            Check.same("open down, told", 24, down.open(client, false));
            down.push(client);
            Check.same("open down, known", 0, down.open(client, false));
        }
    }

    // ---- Promise 10

    /** "IndexOutOfBoundsException when there is none." */
    private static void changeOfNoOpenOne() {
        int[] never = {-1, 24, 25, 256, Integer.MIN_VALUE, Integer.MAX_VALUE};
        for (int client = 1; client <= 3; client++) {
            int one = client;
            Relay up = new Relay();
            for (int open = 0; open <= 16; open++) {
                int beyond = open;
                Check.refuses(up, "change " + open + " of " + open, INDEX, () -> up.change(one, true, beyond));
                Check.refuses(up, "change 0 of none", INDEX, () -> up.change(one, false, 0));
                Scenes.nod(up, client, open < 16 ? 1 : 0);
                Check.same("the last one", 2000 + client, up.change(client, true, Math.min(open, 15)));
            }
            Relay down = Scenes.openTowards(client, 24);
            for (int i : never) {
                Check.refuses(up, "change " + i + " of 16", INDEX, () -> up.change(one, true, i));
                Check.refuses(down, "change " + i + " of 24", INDEX, () -> down.change(one, false, i));
            }
            Check.same("the first", 2000 + Scenes.lesserOther(client), down.change(client, false, 0));
            Check.same("the last", 2000 + Scenes.greaterOther(client), down.change(client, false, 23));
            Scenes.pull(down, client, 24);
            down.nod(client);
            down.push(client);
            Check.refuses(down, "change 0, all are known", INDEX, () -> down.change(one, false, 0));
            Relay some = Scenes.openTowards(client, 5);
            Check.refuses(some, "change 5 of 5", INDEX, () -> some.change(one, false, 5));
        }
    }

    /** "1000 * kind + 10 * place + origin (place 0 for NOTHING)": as they then are, from the oldest, 0, on. */
    private static void changeAsItIsTold() {
        for (int client = 1; client <= 3; client++) {
            int other = Scenes.greaterOther(client);
            Relay relay = Scenes.startingWith("abcdef");
            Scenes.settle(relay);
            relay.delete(client, 5);
            relay.insert(client, 5, 'x');
            relay.nod(client);
            relay.insert(client, 0, 'y');
            Check.same("as made", List.of(1050 + client, 50 + client, 2000 + client, client),
                    Check.lastOpenOf(relay, client, true, 4));
            relay.delete(other, 5);
            relay.push(other);
            relay.pull(client);
            Check.same("place 0 for one that has become nothing", List.of(2000 + client, 50 + client, 2000 + client, client),
                    Check.lastOpenOf(relay, client, true, 4));
            relay.delete(other, 0);
            relay.push(other);
            relay.pull(client);
            Check.same("as they then are", List.of(2000 + client, 40 + client, 2000 + client, client),
                    Check.lastOpenOf(relay, client, true, 4));
        }
    }

    // ---- Promises 11 and 12

    /** "How many letters a site's text has": from none to 64, which is the most that the other limits let it have. */
    private static void sizeFromNoneToMost() {
        Relay relay = Scenes.settledWith(28);
        for (int client = 1; client <= 3; client++) {
            for (int due = 29; due <= 40; due++) {
                relay.insert(client, due - 1, 'z');
                Check.same("the size of " + client, due, relay.size(client));
            }
        }
        for (int i = 0; i < 12; i++) {
            for (int client = 1; client <= 3; client++) {
                relay.push(client);
                Check.same("the server's size", 28 + 3 * i + client, relay.size(0));
            }
        }
        for (int client = 1; client <= 3; client++) {
            for (int due = 41; due <= 64; due++) {
                relay.pull(client);
                Check.same("the size of " + client, due, relay.size(client));
            }
        }
        Check.same("alike", true, relay.alike());
        Check.same("the 64th letter", (int) 'z', relay.letter(3, 63));
        Check.refuses(relay, "letter 64 of 64", INDEX, () -> relay.letter(3, 64));
        Check.refuses(relay, "insert with 64", UNSUPPORTED, () -> relay.insert(3, 64, 'y'));
        Check.same("the greatest place", 633, relay.change(1, false, 23));
        Check.same("delete the 64th", (int) 'z', relay.delete(3, 63));
        Check.same("63 are left", 63, relay.size(3));
        Relay one = new Relay();
        one.insert(2, 0, 'a');
        one.delete(2, 0);
        Check.same("none again", 0, one.size(2));
    }

    /** "IndexOutOfBoundsException when there is none." */
    private static void letterWhereNoneIs() {
        Relay relay = new Relay();
        Scenes.insert(relay, 1, 3);
        relay.push(1);
        relay.push(1);
        relay.pull(2);
        int[] sizes = {2, 3, 1, 0};
        for (int site = 0; site <= 3; site++) {
            int one = site;
            int size = sizes[site];
            Check.same("the size of " + site, size, relay.size(site));
            for (int at : new int[] {-1, size, size + 1, 39, 40, 63, 64, 256, Integer.MIN_VALUE, Integer.MAX_VALUE}) {
                Check.refuses(relay, "letter " + at + " of " + size, INDEX, () -> relay.letter(one, at));
            }
        }
        relay.delete(1, 2);
        Check.refuses(relay, "the place of a deleted letter", INDEX, () -> relay.letter(1, 2));
    }

    /** "The code of a letter", numbered from 0. */
    private static void letterFromLeastToGreatest() {
        Relay relay = new Relay();
        relay.insert(2, 0, '~');
        relay.insert(2, 0, 'm');
        relay.insert(2, 0, ' ');
        Scenes.handOn(relay);
        for (int site = 0; site <= 3; site++) {
            Check.same("the letters of " + site, List.of(32, 109, 126),
                    List.of(relay.letter(site, 0), relay.letter(site, 1), relay.letter(site, 2)));
        }
    }

    // ---- Promise 13: "Whether all four texts are the same."

    private static void alikeWithOneSiteApart() {
        Relay server = new Relay();
        for (int client = 1; client <= 3; client++) {
            server.insert(client, 0, 'a');
        }
        Check.same("the server apart", false, server.alike());
        for (int client = 1; client <= 3; client++) {
            int other = Scenes.lesserOther(client);
            Relay relay = Scenes.startingWith("ab");
            Check.same("none apart", true, relay.alike());
            relay.insert(client, 2, 'c');
            Check.same("one letter more", false, relay.alike());
            relay.delete(client, 2);
            Check.same("none apart again", true, relay.alike());
            relay.delete(client, 1);
            Check.same("one letter less", false, relay.alike());
            relay.insert(client, 1, 'b');
            Check.same("none apart, a letter made anew", true, relay.alike());
            Relay late = Scenes.startingWith("ab");
            late.insert(other, 0, 'x');
            late.push(other);
            late.pull(Scenes.greaterOther(client));
            Check.same("one is late", false, late.alike());
            late.pull(client);
            Check.same("none is late", true, late.alike());
        }
    }

    private static void alikeByLetters() {
        for (int client = 1; client <= 3; client++) {
            for (int at = 0; at < 4; at++) {
                Relay relay = Scenes.startingWith("abcd");
                relay.delete(client, at);
                relay.insert(client, at, 'z');
                Check.same("another letter at " + at + " of " + client, false, relay.alike());
                relay.delete(client, at);
                relay.insert(client, at, (char) ('a' + at));
                Check.same("the same letter at " + at + " of " + client, true, relay.alike());
            }
        }
        Relay swapped = Scenes.startingWith("ab");
        swapped.delete(3, 0);
        swapped.insert(3, 1, 'a');
        Check.same("the same letters in another order", false, swapped.alike());
    }

    private static void alikeWhileMessagesWait() {
        Relay relay = new Relay();
        Check.same("all empty", true, relay.alike());
        for (int client = 1; client <= 3; client++) {
            relay.nod(client);
        }
        Check.same("nods wait", true, relay.alike());
        relay.insert(1, 0, 'a');
        relay.delete(1, 0);
        Check.same("what waits takes itself back", true, relay.alike());
        Scenes.handUp(relay);
        Check.same("at the server too", true, relay.alike());
        relay.pull(2);
        relay.pull(2);
        Check.same("in the midst of it", false, relay.alike());
    }

    // ---- Promise 14: "Whether no message waits anywhere."

    private static void quietWithOneMessage() {
        for (int client = 1; client <= 3; client++) {
            int other = Scenes.lesserOther(client);
            int third = Scenes.greaterOther(client);
            Relay relay = new Relay();
            Check.same("at first", true, relay.quiet());
            relay.nod(client);
            Check.same("one waits up, of " + client, false, relay.quiet());
            relay.push(client);
            Check.same("two wait down", false, relay.quiet());
            relay.pull(other);
            Check.same("one waits down, for " + third, false, relay.quiet());
            relay.pull(third);
            Check.same("none waits, though some are open", true, relay.quiet());
            relay.nod(client);
            relay.push(client);
            relay.pull(third);
            Check.same("one waits down, for " + other, false, relay.quiet());
            relay.pull(other);
            Check.same("none waits", true, relay.quiet());
        }
    }

    // ---- rows that go round: full ones, whatever number of messages went through before

    private static void rowsGoRound() {
        for (int before = 0; before <= 17; before++) {
            fullRowUp(before);
        }
        for (int before = 0; before <= 25; before++) {
            fullRowDown(before);
        }
    }

    /** Every client nods once, and the others get it. */
    private static void nodRound(Relay relay) {
        for (int client = 1; client <= 3; client++) {
            nodThrough(relay, client);
        }
    }

    private static void nodThrough(Relay relay, int client) {
        relay.nod(client);
        relay.push(client);
        relay.pull(Scenes.lesserOther(client));
        relay.pull(Scenes.greaterOther(client));
    }

    /** 16 letters of client 1 wait: all in order, and each with the number of its time. */
    private static void fullRowUp(int before) {
        String name = "up, " + before + " went before: ";
        Relay relay = new Relay();
        for (int i = 0; i < before; i++) {
            nodRound(relay);
        }
        Check.same(name + "got", before, relay.got(1, true));
        Check.same(name + "open", 0, relay.open(1, true));
        for (int i = 0; i < 16; i++) {
            relay.insert(1, i, (char) ('a' + i));
            if (i < 8) {
                relay.nod(2);
                relay.push(2);
                relay.pull(1);
            }
        }
        Check.same(name + "waiting", 16, relay.waiting(1, true));
        for (int i = 0; i < 16; i++) {
            Check.same(name + "open " + i, 10 * i + 1, relay.change(1, true, i));
        }
        for (int i = 0; i < 16; i++) {
            relay.push(1);
            Check.same(name + "known with message " + i, Math.max(0, 8 - i), relay.open(1, false));
        }
        Check.same(name + "the server's text", "abcdefghijklmnop", Check.textOf(relay, 0));
    }

    /** 12 letters of client 1 and 12 of client 2 wait for client 3: all in order, and each with the number of its time. */
    private static void fullRowDown(int before) {
        String name = "down, " + before + " went before: ";
        Relay relay = new Relay();
        for (int i = 0; i < before / 2; i++) {
            nodRound(relay);
        }
        if (before % 2 == 1) {
            nodThrough(relay, 1);
        }
        Check.same(name + "got", before, relay.got(3, false));
        Scenes.nod(relay, 3, 9);
        relay.push(3);
        Check.same(name + "open", 0, relay.open(3, false));
        for (int i = 0; i < 24; i++) {
            int client = i < 12 ? 1 : 2;
            Scenes.pull(relay, 2, i == 12 ? 21 : 0);
            relay.insert(client, i, (char) ('a' + i));
            relay.push(client);
            Scenes.push(relay, 3, i < 8 ? 1 : 0);
        }
        Check.same(name + "waiting", 24, relay.waiting(3, false));
        for (int i = 0; i < 24; i++) {
            Check.same(name + "open " + i, 10 * i + (i < 12 ? 1 : 2), relay.change(3, false, i));
        }
        for (int i = 0; i < 24; i++) {
            relay.pull(3);
            Check.same(name + "known with message " + i, Math.max(0, 8 - i), relay.open(3, true));
        }
        Check.same(name + "the text of 3", "abcdefghijklmnopqrstuvwx", Check.textOf(relay, 3));
    }

    // ---- "An object is used for at most 512 calls after it has been made": up to the last one all holds.

    private static void theLastOfAllCalls() {
        EditRelay object = new EditRelay();
        for (int i = 0; i < 127; i++) {
            int client = 1 + i % 3;
            if (i / 3 % 2 == 0) {
                object.insert(client, 0, 'a');
            } else {
                object.delete(client, 0);
            }
            object.push(client);
            object.pull(Scenes.lesserOther(client));
            object.pull(Scenes.greaterOther(client));
        }
        Check.same("call 509", 43, object.got(1, true));
        Check.same("call 510", 84, object.got(1, false));
        Check.same("call 511", 1, object.size(0));
        Check.same("call 512", true, object.alike());
    }

    // ---- what is asked by client and direction

    private interface Question {
        int ask(int client, boolean up);
    }

    private static List<Integer> ofAll(Question question, boolean up) {
        return List.of(question.ask(1, up), question.ask(2, up), question.ask(3, up));
    }
}
