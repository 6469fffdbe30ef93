/** "Exceptions leave all as it was", for every exception of every promise, and so do refused calls. */
public final class RefusedTest {
    private static final Checks CHECKS = new Checks();
    private static final Class<?> UNSUPPORTED = UnsupportedOperationException.class;
    private static final Class<?> ARGUMENT = IllegalArgumentException.class;
    private static final Class<?> STATE = IllegalStateException.class;
    private static final int LOWEST = Integer.MIN_VALUE;
    private static final int HIGHEST = Integer.MAX_VALUE;

    public static void main(String[] args) {
        CHECKS.sentence("Exceptions leave all as it was");
        newObject();
        told();
        full();
        noRule();
        barredRing();
        acceptedOnly();
        withABatch();
        fullBatch();
        behindACut();
        tooFullALog();
        aFullLog();
        allKept();
        CHECKS.end();
    }

    private static void newObject() {
        Twins twins = new Twins(CHECKS, "a new object", () -> new RelationStore(3), x -> {
            x.relation(0, true, 7, 1);
            Checks.answer(() -> x.accept());
        });
        twins.refused("type", false, x -> x.type('T'));
        twins.refused("accept", UNSUPPORTED, x -> x.accept());
        wrongNamespaces(twins);
        wrongBeforeAccept(twins);
    }

    private static void wrongNamespaces(Twins twins) {
        for (int namespace : new int[] {LOWEST, -1, 3, HIGHEST}) {
            twins.refused("relation of namespace " + namespace, -1, x -> x.relation(namespace, true, 7, -1));
            twins.refused("empty one of namespace " + namespace, -1, x -> x.relation(namespace, false, 0, 0));
        }
    }

    private static void wrongBeforeAccept(Twins twins) {
        for (int relation : new int[] {LOWEST, -1, 9, HIGHEST}) {
            twins.refused("sound of " + relation, false, x -> x.sound(relation));
        }
        twins.refused("change", UNSUPPORTED, x -> x.change(true, 0, 0, 0, 0, 0));
        twins.refused("change of no tuple", UNSUPPORTED, x -> x.change(true, -1, 0, 0, 0, 0));
        for (int most : new int[] {-1, 0, 1, HIGHEST}) {
            twins.refused("commit(" + most + ")", STATE, x -> x.commit(most));
        }
        twins.refused("check", ARGUMENT, x -> x.check(0, 0, 0, 0));
        twins.refused("expand", ARGUMENT, x -> x.expand(0, 0, 0));
        twins.refused("lookup", ARGUMENT, x -> x.lookup(0, 0, 0));
        twins.refused("nested", ARGUMENT, x -> x.nested(0, 0, 0, 0, 0));
        wrongTokens(twins, -1, ARGUMENT);
        wrongTokens(twins, 1, ARGUMENT);
    }

    private static void wrongTokens(Twins twins, int token, Class<?> due) {
        twins.refused("tuples(" + token + ")", due, x -> x.tuples(token));
        twins.refused("watch(" + token + ")", due, x -> x.watch(token));
        twins.refused("watched(" + token + ", 0, 0)", due, x -> x.watched(token, 0, 0));
        twins.refused("check of token " + token, due, x -> x.check(token, 0, 0, 0));
        twins.refused("expand of token " + token, due, x -> x.expand(token, 0, 0));
        twins.refused("lookup of token " + token, due, x -> x.lookup(token, 0, 0));
        twins.refused("nested of token " + token, due, x -> x.nested(token, 0, 0, 0, 0));
    }

    /** Three relations, of which the last one's text wants a digit. */
    private static void told() {
        Twins twins = new Twins(CHECKS, "told", () -> {
            RelationStore x = new RelationStore(3);
            x.relation(0, true, 7, 1);
            Checks.relation(x, 1, false, 2, 3, "T|c1");
            Checks.relation(x, 0, true, 4, 2, "T|f01-(T&c");
            return x;
        }, x -> {
            Checks.typeAll(x, "0)");
            Checks.answer(() -> x.accept());
        });
        twins.refused("accept", ARGUMENT, x -> x.accept());
        twins.refused("sound of what is no rule", false, x -> x.sound(2));
        twins.refused("sound of a relation that is not there", false, x -> x.sound(3));
        wrongNamespaces(twins);
        wrongBeforeAccept(twins);
    }

    private static RelationStore nine() {
        RelationStore x = new RelationStore(1);
        for (int r = 0; r < 9; r++) {
            Checks.relation(x, r % 3, r % 2 == 0, r, 1 << r, r == 8 ? "T|T&T|T|T&T|T|T|T&T|T|c2" : "T");
        }
        return x;
    }

    private static void full() {
        Twins twins = new Twins(CHECKS, "nine relations, the last text is full", () -> nine(),
                x -> Checks.answer(() -> x.accept()));
        for (int namespace = -1; namespace <= 3; namespace++) {
            int n = namespace;
            twins.refused("a tenth of namespace " + n, -1, x -> x.relation(n, true, 7, 511));
            twins.refused("an empty tenth of namespace " + n, -1, x -> x.relation(n, false, 0, 0));
        }
        for (char c : new char[] {'T', '|', '(', '\u0000', '\uffff'}) {
            twins.refused("a 25th character " + (int) c, false, x -> x.type(c));
        }
        wrongBeforeAccept(twins);
    }

    private static void noRule() {
        for (int wrong = 0; wrong < 3; wrong++) {
            int at = wrong;
            Twins twins = new Twins(CHECKS, "text " + wrong + " is no rule", () -> {
                RelationStore x = new RelationStore(0);
                for (int r = 0; r < 3; r++) {
                    Checks.relation(x, 0, true, 7, 7, r == at ? "c3" : "T|c" + r);
                }
                return x;
            }, x -> {
                x.relation(0, true, 0, 0);
                Checks.answer(() -> x.accept());
            });
            twins.refused("accept", ARGUMENT, x -> x.accept());
            twins.refused("sound", false, x -> x.sound(at));
        }
    }

    private static void barredRing() {
        Twins twins = new Twins(CHECKS, "a barred ring", () -> {
            RelationStore x = new RelationStore(0);
            Checks.relation(x, 0, true, 0, 0, "T-c1");
            Checks.relation(x, 0, true, 0, 0, "c0");
            return x;
        }, Twins.NEVER);
        twins.refused("accept", STATE, x -> x.accept());
        wrongNamespaces(twins);
        wrongBeforeAccept(twins);
        Twins both = new Twins(CHECKS, "a barred ring, and no rule", () -> {
            RelationStore x = new RelationStore(0);
            Checks.relation(x, 0, true, 0, 0, "T-c0");
            Checks.relation(x, 0, true, 0, 0, "T-");
            return x;
        }, Twins.NEVER);
        both.refused("accept", ARGUMENT, x -> x.accept());
    }

    /** Relation 2 is worked out from 0 and 1; users, objects and usersets are listed for 0 alone. */
    private static RelationStore accepted(int kept) {
        RelationStore x = new RelationStore(kept);
        x.relation(0, true, 5, 1);
        x.relation(0, true, 0, 0);
        Checks.relation(x, 0, false, 0, 0, "c0|f00-c1");
        Checks.relation(x, 1, true, 0, 4, "T|c3");
        x.accept();
        return x;
    }

    private static void wrongWhenAccepted(Twins twins) {
        twins.refused("accept", UNSUPPORTED, x -> x.accept());
        twins.refused("relation", -1, x -> x.relation(0, true, 7, 511));
        twins.refused("relation that lists nothing", -1, x -> x.relation(2, false, 0, 0));
        twins.refused("relation of no namespace", -1, x -> x.relation(3, false, 0, 0));
        for (char c : "T|)x".toCharArray()) {
            twins.refused("type " + c, false, x -> x.type(c));
        }
        twins.refused("sound of no relation", false, x -> x.sound(4));
        twins.refused("sound of -1", false, x -> x.sound(-1));
        int[][] wrong = {{-1, 0, 0, 0, 0}, {12, 0, 0, 0, 0}, {4, 0, 0, 0, 0}, {0, -1, 0, 0, 0}, {0, 4, 0, 0, 0},
            {0, 3, 0, 0, 0}, {0, 0, -1, 0, 0}, {0, 0, 3, 0, 0}, {0, 0, 0, -1, 0}, {0, 0, 0, 8, 0}, {0, 2, 0, 0, 0},
            {0, 0, 1, -1, 0}, {0, 0, 1, 4, 0}, {0, 0, 1, 12, 0}, {0, 0, 2, -1, 0}, {0, 0, 2, 12, 0}, {0, 0, 2, 4, 0},
            {0, 0, 2, 0, -1}, {0, 0, 2, 0, 1}, {0, 0, 2, 0, 4}, {0, 0, 2, 0, 32}, {4, 3, 2, 4, 2},
            {LOWEST, LOWEST, LOWEST, LOWEST, LOWEST}, {HIGHEST, HIGHEST, HIGHEST, HIGHEST, HIGHEST}};
        for (int[] t : wrong) {
            String name = "change of " + java.util.Arrays.toString(t);
            twins.refused(name, ARGUMENT, x -> x.change(true, t[0], t[1], t[2], t[3], t[4]));
            twins.refused(name + " that goes", ARGUMENT, x -> x.change(false, t[0], t[1], t[2], t[3], t[4]));
        }
    }

    private static void wrongQuestions(Twins twins, int latest, int oldest) {
        wrongTokens(twins, LOWEST, ARGUMENT);
        wrongTokens(twins, -1, ARGUMENT);
        wrongTokens(twins, latest + 1, ARGUMENT);
        wrongTokens(twins, HIGHEST, ARGUMENT);
        for (int token = Math.max(0, oldest - 2); token < oldest; token++) {
            wrongTokens(twins, token, STATE);
        }
        wrongNames(twins, latest);
        wrongNames(twins, oldest);
        twins.refused("watched of no change", -1, x -> x.watched(latest, 0, 0));
        twins.refused("watched of change -1", -1, x -> x.watched(oldest, -1, 0));
        twins.refused("watched of what 7", -1, x -> x.watched(oldest, 0, 7));
        twins.refused("watched of what -1", -1, x -> x.watched(oldest, 0, -1));
    }

    private static void wrongNames(Twins twins, int token) {
        int[][] pairs = {{-1, 0}, {12, 0}, {4, 0}, {0, -1}, {0, 4}, {0, 3}, {LOWEST, HIGHEST}};
        for (int[] p : pairs) {
            String name = java.util.Arrays.toString(p) + " in " + token;
            twins.refused("check of " + name, ARGUMENT, x -> x.check(token, p[0], p[1], 0));
            twins.refused("expand of " + name, ARGUMENT, x -> x.expand(token, p[0], p[1]));
            twins.refused("nested from " + name, ARGUMENT, x -> x.nested(token, p[0], p[1], 0, 0));
            twins.refused("nested to " + name, ARGUMENT, x -> x.nested(token, 0, 0, p[0], p[1]));
        }
        for (int wrong : new int[] {LOWEST, -1, 8, HIGHEST}) {
            twins.refused("check of user " + wrong, ARGUMENT, x -> x.check(token, 0, 0, wrong));
            twins.refused("lookup of user " + wrong, ARGUMENT, x -> x.lookup(token, 0, wrong));
            twins.refused("lookup by " + wrong, ARGUMENT, x -> x.lookup(token, wrong, 0));
        }
    }

    private static void wrongCommits(Twins twins) {
        for (int most : new int[] {LOWEST, -1, 0, 1, 2, 5, 6, HIGHEST}) {
            twins.refused("commit(" + most + ")", STATE, x -> x.commit(most));
        }
    }

    private static void acceptedOnly() {
        Twins twins = new Twins(CHECKS, "accepted", () -> accepted(3), Twins.ALREADY);
        wrongWhenAccepted(twins);
        wrongQuestions(twins, 0, 0);
        wrongCommits(twins);
    }

    /** Versions 1 to 4, with users, objects and usersets that come and go. */
    private static RelationStore used(int kept) {
        RelationStore x = accepted(kept);
        Stores.fill(x, 3);
        x.change(true, 1, 0, 2, 0, 0);
        x.change(true, 2, 0, 1, 1, 0);
        x.commit(-1);
        x.change(true, 0, 1, 0, 1, 0);
        x.change(true, 2, 1, 0, 2, 0);
        x.commit(-1);
        x.change(false, 0, 0, 0, 2, 0);
        x.change(true, 0, 0, 2, 1, 0);
        x.commit(3);
        x.change(true, 0, 0, 0, 7, 0);
        x.change(true, 4, 3, 0, 6, 0);
        x.commit(-1);
        return x;
    }

    private static RelationStore withBatch(int kept) {
        RelationStore x = used(kept);
        x.change(false, 0, 0, 0, 0, 0);
        x.change(true, 3, 0, 1, 11, 0);
        x.change(true, 3, 0, 2, 2, 0);
        return x;
    }

    private static void withABatch() {
        Twins twins = new Twins(CHECKS, "four versions and a batch of three", () -> withBatch(1), Twins.ALREADY);
        wrongWhenAccepted(twins);
        wrongQuestions(twins, 4, 3);
        Twins without = new Twins(CHECKS, "four versions", () -> used(0), Twins.ALREADY);
        wrongCommits(without);
        wrongQuestions(without, 4, 4);
    }

    private static void fullBatch() {
        Twins twins = new Twins(CHECKS, "a full batch", () -> {
            RelationStore x = withBatch(2);
            x.change(true, 0, 0, 0, 0, 0);
            x.change(false, 0, 1, 0, 1, 0);
            return x;
        }, Twins.ALREADY);
        twins.refused("a sixth that comes", STATE, x -> x.change(true, 3, 0, 0, 7, 0));
        twins.refused("a sixth that goes", STATE, x -> x.change(false, 0, 0, 0, 7, 0));
        twins.refused("a sixth that is an object", STATE, x -> x.change(true, 0, 0, 1, 11, 3));
        twins.refused("a sixth that is a userset", STATE, x -> x.change(true, 0, 0, 2, 3, 0));
        wrongWhenAccepted(twins);
        wrongQuestions(twins, 4, 2);
    }

    private static void behindACut() {
        for (int most = 0; most <= 3; most++) {
            int cut = most;
            Twins twins = new Twins(CHECKS, "a batch cut at " + most, () -> {
                RelationStore x = withBatch(1);
                x.commit(cut);
                return x;
            }, Twins.ALREADY);
            wrongCommits(twins);
            wrongQuestions(twins, 4, 3);
        }
    }

    private static void tooFullALog() {
        for (int changes = 1; changes <= 5; changes++) {
            int size = changes;
            Twins twins = new Twins(CHECKS, "no room for " + changes, () -> {
                RelationStore x = accepted(1);
                Stores.records(x, 120 - size);
                for (int i = 0; i < size; i++) {
                    x.change(i % 2 == 0, 3, 0, 0, i, 0);
                }
                return x;
            }, Twins.ALREADY);
            wrongCommits(twins);
        }
    }

    private static void aFullLog() {
        Twins twins = new Twins(CHECKS, "a full log", () -> {
            RelationStore x = accepted(1);
            Stores.records(x, 120);
            x.change(true, 3, 0, 0, 7, 0);
            return x;
        }, Twins.ALREADY);
        wrongCommits(twins);
        wrongWhenAccepted(twins);
        wrongQuestions(twins, 20, 19);
    }

    private static void allKept() {
        Twins twins = new Twins(CHECKS, "eight kept of twenty", () -> {
            RelationStore x = accepted(7);
            Stores.commits(x, 20);
            return x;
        }, Twins.ALREADY);
        wrongCommits(twins);
        wrongQuestions(twins, 20, 13);
    }
}
