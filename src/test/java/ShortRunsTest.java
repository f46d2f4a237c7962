import java.util.ArrayList;
import java.util.HashSet;
import java.util.List;
import java.util.Set;

/**
 * Every run of a few acting calls, at either end of a text and with one letter for each client: the last answer
 * and the whole state as the model has them, and, as the document's first sentence says, all copies the same
 * when all has been handed on. A state that was seen before is not gone on from again.
 */
public final class ShortRunsTest {
    private enum Kind {
        INSERT, DELETE, NOD, PUSH, PULL
    }

    private record Step(Kind kind, int client, int at) {
        /** The letter tells its client, and no more: so that runs which differ in nothing else come to the same state. */
        char letter() {
            return (char) ('w' + client);
        }

        int on(Model model) {
            return switch (kind) {
                case INSERT -> model.insert(client, at, letter());
                case DELETE -> model.delete(client, at);
                case NOD -> model.nod(client);
                case PUSH -> model.push(client);
                case PULL -> model.pull(client);
            };
        }

        int on(Relay relay) {
            return switch (kind) {
                case INSERT -> relay.insert(client, at, letter());
                case DELETE -> relay.delete(client, at);
                case NOD -> {
                    relay.nod(client);
                    yield 0;
                }
                case PUSH -> relay.push(client);
                case PULL -> relay.pull(client);
            };
        }
    }

    private final List<Step> start;
    private final Set<String> seen = new HashSet<>();

    private ShortRunsTest(List<Step> start) {
        this.start = start;
        seen.add(behind(start).stateWithMessages());
    }

    public static void main(String[] args) {
        new ShortRunsTest(List.of()).goOn(6);
        new ShortRunsTest(allHaveTwoLetters()).goOn(4);
        new ShortRunsTest(eachHasOneUnderWay()).goOn(4);
        Check.end("ShortRunsTest");
    }

    private static List<Step> allHaveTwoLetters() {
        List<Step> steps = new ArrayList<>();
        for (int client = 1; client <= 2; client++) {
            steps.add(new Step(Kind.INSERT, client, client - 1));
            steps.add(new Step(Kind.PUSH, client, 0));
            steps.add(new Step(Kind.PULL, 3 - client, 0));
            steps.add(new Step(Kind.PULL, 3, 0));
        }
        return steps;
    }

    /** Nobody knows of anybody's insert yet: the server has got one of each client, and one of each waits on. */
    private static List<Step> eachHasOneUnderWay() {
        List<Step> steps = new ArrayList<>();
        for (int client = 1; client <= 3; client++) {
            steps.add(new Step(Kind.INSERT, client, 0));
            steps.add(new Step(Kind.INSERT, client, 1));
            steps.add(new Step(Kind.PUSH, client, 0));
        }
        return steps;
    }

    private void goOn(int calls) {
        List<List<Step>> runs = List.of(start);
        for (int call = 0; call < calls; call++) {
            List<List<Step>> longer = new ArrayList<>();
            for (List<Step> run : runs) {
                for (Step step : stepsBehind(run)) {
                    List<Step> with = new ArrayList<>(run);
                    with.add(step);
                    if (leadsToSomethingNew(with)) {
                        longer.add(with);
                    }
                }
            }
            runs = longer;
        }
    }

    private static Model behind(List<Step> run) {
        Model model = new Model();
        for (Step step : run) {
            step.on(model);
        }
        return model;
    }

    /** What each client can do at either end of its text, whether it is then refused or not. */
    private static List<Step> stepsBehind(List<Step> run) {
        Model model = behind(run);
        List<Step> steps = new ArrayList<>();
        for (int client = 1; client <= 3; client++) {
            int size = model.size(client);
            steps.add(new Step(Kind.INSERT, client, 0));
            steps.add(new Step(Kind.DELETE, client, 0));
            if (size > 0) {
                steps.add(new Step(Kind.INSERT, client, size));
            }
            if (size > 1) {
                steps.add(new Step(Kind.DELETE, client, size - 1));
            }
            steps.add(new Step(Kind.NOD, client, 0));
            steps.add(new Step(Kind.PUSH, client, 0));
            steps.add(new Step(Kind.PULL, client, 0));
        }
        return steps;
    }

    private boolean leadsToSomethingNew(List<Step> run) {
        List<Step> before = run.subList(0, run.size() - 1);
        Step last = run.get(run.size() - 1);
        Model model = behind(before);
        Relay relay = new Relay();
        for (Step step : before) {
            step.on(relay);
        }
        String name = run.toString();
        String due = Check.outcomeOf(() -> last.on(model));
        Check.same(name + ": the last answer", due, Check.outcomeOf(() -> last.on(relay)));
        Check.same(name + ": the state", model.state(), Check.stateOf(relay));
        if (!seen.add(model.stateWithMessages())) {
            return false;
        }
        Scenes.handOn(relay);
        Check.same(name + ": quiet and alike when all is handed on", "true true", relay.quiet() + " " + relay.alike());
        return true;
    }
}
