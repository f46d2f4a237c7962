import java.util.ArrayList;
import java.util.List;

/**
 * An EditRelay at which a test may look as often as it likes. The document promises nothing of an object
 * behind its 512th call: when one is used up, the calls that act are made again on a new one, which goes on.
 */
final class Relay {
    static final int MOST_CALLS = 512;

    private interface Call {
        int on(EditRelay object);
    }

    private final List<Call> acts = new ArrayList<>();
    private EditRelay object = new EditRelay();
    private int calls = 0;

    int insert(int client, int at, char letter) {
        return act(object -> object.insert(client, at, letter));
    }

    int delete(int client, int at) {
        return act(object -> object.delete(client, at));
    }

    void nod(int client) {
        act(object -> {
            object.nod(client);
            return 0;
        });
    }

    int push(int client) {
        return act(object -> object.push(client));
    }

    int pull(int client) {
        return act(object -> object.pull(client));
    }

    int waiting(int client, boolean up) {
        return look(object -> object.waiting(client, up));
    }

    int got(int client, boolean up) {
        return look(object -> object.got(client, up));
    }

    int open(int client, boolean up) {
        return look(object -> object.open(client, up));
    }

    int change(int client, boolean up, int i) {
        return look(object -> object.change(client, up, i));
    }

    int size(int site) {
        return look(object -> object.size(site));
    }

    int letter(int site, int at) {
        return look(object -> object.letter(site, at));
    }

    boolean alike() {
        return look(object -> object.alike() ? 1 : 0) == 1;
    }

    boolean quiet() {
        return look(object -> object.quiet() ? 1 : 0) == 1;
    }

    private int act(Call call) {
        takeOneCall();
        acts.add(call);
        return call.on(object);
    }

    private int look(Call call) {
        takeOneCall();
        return call.on(object);
    }

    private void takeOneCall() {
        if (calls == MOST_CALLS) {
            beginAgain();
        }
        calls++;
    }

    private void beginAgain() {
        if (acts.size() >= MOST_CALLS) {
            throw new AssertionError("this test asks more of an object than the document promises");
        }
        object = new EditRelay();
        for (Call act : acts) {
            // A refused call is made again too: that it has changed nothing must show behind it.
            Check.thrownBy(() -> act.on(object));
        }
        calls = acts.size();
    }
}
