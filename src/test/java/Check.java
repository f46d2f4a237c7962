import java.util.ArrayList;
import java.util.List;
import java.util.function.IntSupplier;

/** What the tests share: comparing, telling what is wrong, and seeing the whole state of an object. */
final class Check {
    private static int checks = 0;
    private static int wrong = 0;

    private Check() {
    }

    static void same(String what, Object due, Object answered) {
        checks++;
        if (!due.equals(answered)) {
            wrong++;
            System.out.println(what + ": answered " + answered + ", due is " + due);
        }
    }

    /** The call throws just this exception, and the object is the same afterwards. */
    static void refuses(Relay relay, String what, Class<? extends RuntimeException> due, Runnable call) {
        String before = stateOf(relay);
        same(what, due.getSimpleName(), thrownBy(call));
        same(what + ", the state afterwards", before, stateOf(relay));
    }

    static String thrownBy(Runnable call) {
        try {
            call.run();
            return "nothing";
        } catch (RuntimeException e) {
            return e.getClass().getSimpleName();
        }
    }

    /** The answer, or the name of what is thrown in its place. */
    static String outcomeOf(IntSupplier call) {
        try {
            return Integer.toString(call.getAsInt());
        } catch (RuntimeException e) {
            return e.getClass().getSimpleName();
        }
    }

    static String textOf(Relay relay, int site) {
        StringBuilder text = new StringBuilder();
        int size = relay.size(site);
        for (int at = 0; at < size; at++) {
            text.append((char) relay.letter(site, at));
        }
        return text.toString();
    }

    static List<Integer> openOf(Relay relay, int client, boolean up) {
        List<Integer> open = new ArrayList<>();
        int count = relay.open(client, up);
        for (int i = 0; i < count; i++) {
            open.add(relay.change(client, up, i));
        }
        return open;
    }

    /** So many of the open changes, up to the newest. */
    static List<Integer> lastOpenOf(Relay relay, int client, boolean up, int many) {
        List<Integer> open = openOf(relay, client, up);
        return open.subList(Math.max(0, open.size() - many), open.size());
    }

    /** All that the face shows, in one text. */
    static String stateOf(Relay relay) {
        StringBuilder state = new StringBuilder();
        for (int site = 0; site <= 3; site++) {
            state.append('"').append(textOf(relay, site)).append("\" ");
        }
        for (int client = 1; client <= 3; client++) {
            for (boolean up : new boolean[] {true, false}) {
                state.append(client).append(up ? " up " : " down ");
                state.append(relay.waiting(client, up)).append(' ').append(relay.got(client, up)).append(' ');
                state.append(openOf(relay, client, up)).append(' ');
            }
        }
        return state.append(relay.alike()).append(' ').append(relay.quiet()).toString();
    }

    /** Tells the outcome and ends the program, with exit code 1 if anything was wrong. */
    static void end(String test) {
        System.out.println(test + ": " + checks + " checks, " + wrong + " wrong");
        System.exit(wrong == 0 && checks > 0 ? 0 : 1);
    }
}
