import java.util.ArrayList;
import java.util.List;

/**
 * Stores that were all made by the same calls. One that was refused a call then must answer all that comes
 * later as one that was not, whatever is asked: no question tells all, so each gets stores of its own.
 */
final class Twins {
    interface Making {
        RelationStore make();
    }

    interface Going {
        void on(RelationStore x);
    }

    interface Asking {
        Object ask(RelationStore x);
    }

    /** For stores that are accepted. */
    static final Going ALREADY = new Nowhere();
    /** For stores that never will be. */
    static final Going NEVER = new Nowhere();

    private static final class Nowhere implements Going {
        @Override
        public void on(RelationStore x) { }
    }

    private final Checks checks;
    private final String name;
    private final Making making;
    private final Going going;
    private final List<Asking> probes = new ArrayList<>();
    private final List<Object> due = new ArrayList<>();

    /** Going on is what makes the store accepted, if it is not. */
    Twins(Checks checks, String name, Making making, Going going) {
        this.checks = checks;
        this.name = name;
        this.making = making;
        this.going = going;
        mustGoOn();
        gatherProbes();
        for (Asking probe : probes) {
            due.add(probe.ask(making.make()));
        }
    }

    /** Where nothing is accepted, most of the questions tell nothing. */
    private void mustGoOn() {
        RelationStore x = making.make();
        going.on(x);
        boolean isAccepted = Checks.answer(() -> x.change(true, -1, 0, 0, 0, 0)) == IllegalArgumentException.class;
        checks.due(name + " is accepted at last", going != NEVER, () -> isAccepted);
    }

    /** The call answers what is due, and leaves all as it was. */
    void refused(String call, Object answer, Asking asking) {
        RelationStore asked = making.make();
        checks.due(name + ": " + call, answer, () -> asking.ask(asked));
        checks.due(name + ": " + call + " again", answer, () -> asking.ask(asked));
        for (int i = 0; i < probes.size(); i++) {
            RelationStore x = making.make();
            Checks.answer(() -> asking.ask(x));
            Asking probe = probes.get(i);
            checks.due(name + ", behind " + call, due.get(i), () -> probe.ask(x));
        }
    }

    private void gatherProbes() {
        probes.add(x -> configuration(x));
        probes.add(x -> batch(x));
        probes.add(x -> roomInBatch(x));
        probes.add(x -> cutBatch(x));
        probes.add(x -> log(x));
        probes.add(x -> {
            x.crash();
            return log(x);
        });
        for (int relation = 0; relation < 9; relation++) {
            int r = relation;
            probes.add(x -> listed(x, r));
        }
        for (int back = 0; back < 8; back++) {
            int b = back;
            probes.add(x -> members(x, b));
        }
    }

    private static void add(StringBuilder answers, Checks.Call call) {
        answers.append(Checks.answer(call)).append(' ');
    }

    private String configuration(RelationStore x) {
        StringBuilder answers = new StringBuilder("configuration: ");
        sounds(x, answers);
        add(answers, () -> x.type('|'));
        add(answers, () -> x.type('T'));
        sounds(x, answers);
        add(answers, () -> x.relation(0, true, 0, 0));
        sounds(x, answers);
        going.on(x);
        add(answers, () -> x.accept());
        add(answers, () -> x.change(true, 0, 0, 0, 0, 0));
        return answers.toString();
    }

    private static void sounds(RelationStore x, StringBuilder answers) {
        for (int r = 0; r < 9; r++) {
            int relation = r;
            add(answers, () -> x.sound(relation));
        }
    }

    /** When five changes are there, a right tuple and a wrong one are still told apart. */
    private String listed(RelationStore x, int relation) {
        StringBuilder answers = new StringBuilder("listed for " + relation + ": ");
        going.on(x);
        for (int object = 0; object < 12; object += 4) {
            int o = object;
            add(answers, () -> x.change(true, o, relation, 0, 0, 0));
            for (int a = 0; a < 12; a += 4) {
                int subject = a;
                add(answers, () -> x.change(true, o, relation, 1, subject, 0));
                for (int s = 0; s < 9; s++) {
                    int of = s;
                    add(answers, () -> x.change(true, o, relation, 2, subject, of));
                }
            }
        }
        return answers.toString();
    }

    private String batch(RelationStore x) {
        StringBuilder answers = new StringBuilder("batch: ");
        going.on(x);
        add(answers, () -> x.commit(-1));
        addLatest(x, answers);
        for (int k = 0; k < 6; k++) {
            addFields(x, answers, x.latest() - 1, k);
        }
        return answers.toString();
    }

    private String roomInBatch(RelationStore x) {
        StringBuilder answers = new StringBuilder("room in the batch: ");
        going.on(x);
        for (int i = 0; i < 6; i++) {
            add(answers, () -> x.change(true, 3, 0, 0, 7, 0));
        }
        add(answers, () -> x.commit(6));
        addLatest(x, answers);
        return answers.toString();
    }

    private String cutBatch(RelationStore x) {
        StringBuilder answers = new StringBuilder("cut batch: ");
        going.on(x);
        add(answers, () -> x.commit(1));
        addLatest(x, answers);
        add(answers, () -> x.change(true, 3, 0, 0, 7, 0));
        add(answers, () -> x.commit(-1));
        addLatest(x, answers);
        return answers.toString();
    }

    private static void addLatest(RelationStore x, StringBuilder answers) {
        int latest = x.latest();
        answers.append(latest).append(' ').append(x.records()).append(' ');
        add(answers, () -> x.tuples(latest));
        add(answers, () -> x.watch(latest - 1));
        add(answers, () -> x.expand(latest, 0, 0));
        add(answers, () -> x.expand(latest, 3, 0));
    }

    private static void addFields(RelationStore x, StringBuilder answers, int token, int k) {
        for (int what = 0; what < 7; what++) {
            int asked = what;
            add(answers, () -> x.watched(token, k, asked));
        }
    }

    private String log(RelationStore x) {
        StringBuilder answers = new StringBuilder("log: ");
        going.on(x);
        addLatest(x, answers);
        int latest = x.latest();
        int oldest = latest;
        for (int token = latest + 1; token >= latest - 9; token--) {
            int asked = token;
            add(answers, () -> x.tuples(asked));
            add(answers, () -> x.watch(asked));
            if (Checks.answer(() -> x.watch(asked)) instanceof Integer) {
                oldest = asked;
            }
        }
        int changes = x.watch(oldest);
        for (int k = 0; k < changes; k++) {
            addFields(x, answers, oldest, k);
        }
        return answers.toString();
    }

    private String members(RelationStore x, int back) {
        StringBuilder answers = new StringBuilder("members, " + back + " back: ");
        going.on(x);
        int token = x.latest() - back;
        for (int relation = 0; relation < 9; relation++) {
            int r = relation;
            add(answers, () -> x.lookup(token, r, 0));
            add(answers, () -> x.lookup(token, r, 7));
            for (int object = 0; object < 12; object++) {
                int o = object;
                add(answers, () -> x.expand(token, o, r));
            }
            add(answers, () -> x.nested(token, 0, 0, 4 * (r % 3), r));
            add(answers, () -> x.nested(token, 4 * (r % 3), r, 0, 0));
        }
        return answers.toString();
    }
}
