import java.util.Random;
import java.util.TreeMap;

/** Runs of mixed calls, the same ones every time; each answer is compared with the model's. */
public final class ModelTest {
    private static final int RUNS = 8000;
    // An object is promised for 512 calls; one turn of a run makes at most some thirty of them.
    private static final int CALLS = 512 - 40;

    private final Random random;
    private final RelationStore store;
    private final Model model;
    private final int[] planned;
    private final boolean free;
    private int made = 0;
    private int relations = 0;
    private boolean refused = false;
    private boolean accepted = false;
    private static int wrong = 0;
    private static final TreeMap<String, Integer> SEEN = new TreeMap<>();

    private ModelTest(long seed) {
        random = new Random(seed);
        planned = new int[1 + random.nextInt(9)];
        free = random.nextBoolean();
        int kept = random.nextInt(40) - 20;
        store = new RelationStore(kept);
        model = new Model(kept);
    }

    public static void main(String[] args) {
        for (int run = 0; run < RUNS && wrong < 20; run++) {
            new ModelTest(run).run(run);
        }
        System.out.println(RUNS + " runs, " + wrong + " answers wrong");
        mustBeSeen("accept number", 1000);
        mustBeSeen("accept UnsupportedOperationException", 100);
        mustBeSeen("accept IllegalArgumentException", 100);
        mustBeSeen("accept IllegalStateException", 100);
        mustBeSeen("change IllegalStateException", 1000);
        mustBeSeen("commit -1", 1000);
        mustBeSeen("commit IllegalStateException", 1000);
        mustBeSeen("check true", 1000);
        mustBeSeen("expand number", 1000);
        mustBeSeen("lookup number", 1000);
        mustBeSeen("nested true", 500);
        mustBeSeen("watched number", 1000);
        for (String call : new String[] {"tuples", "check", "expand", "lookup", "nested", "watch", "watched"}) {
            mustBeSeen(call + " IllegalArgumentException", 100);
            mustBeSeen(call + " IllegalStateException", 100);
        }
        if (args.length > 0) {
            System.out.println(SEEN);
        }
        if (wrong != 0) {
            System.exit(1);
        }
    }

    /** A run that never comes where it should proves nothing. */
    private static void mustBeSeen(String what, int often) {
        if (SEEN.getOrDefault(what, 0) < often) {
            wrong++;
            System.out.println(what + " was seen " + SEEN.getOrDefault(what, 0) + " times, not " + often);
        }
    }

    private void run(int run) {
        boolean eager = random.nextInt(10) != 0;
        plan();
        while (made < CALLS && wrong < 20) {
            String where = "run " + run + ", call " + made + ": ";
            if (!accepted && eager && !refused) {
                tell(where);
            } else if (accepted && random.nextInt(60) != 0) {
                use(where);
            } else {
                anything(where);
            }
            if (refused && made > 200) {
                return;
            }
        }
    }

    /** Rules may name relations that come later, so the namespaces of all are settled first. */
    private void plan() {
        int different = 1 + random.nextInt(3);
        int first = random.nextInt(3);
        for (int r = 0; r < planned.length; r++) {
            planned[r] = (first + random.nextInt(different)) % 3;
        }
    }

    private void compare(String where, String name, Checks.Call got, Checks.Call want, int... arguments) {
        made++;
        Object answer = Checks.answer(got);
        Object due = Checks.answer(want);
        if (!due.equals(answer)) {
            wrong++;
            System.out.println(where + name + java.util.Arrays.toString(arguments) + " answered " + answer
                    + ", due is " + due);
        }
        String kind = due instanceof Class<?> c ? c.getSimpleName()
                : due instanceof Integer i && i > 0 ? "number" : due.toString();
        SEEN.merge(name + " " + kind, 1, Integer::sum);
    }

    private void tell(String where) {
        if (relations < planned.length) {
            int namespace = planned[relations];
            newRelation(where, namespace, random.nextInt(8) != 0, random.nextInt(8), listed());
            typeText(where, shortText(namespace));
            return;
        }
        accept(where);
        refused = !accepted;
    }

    private int listed() {
        int bits = random.nextInt(512) & (free ? 511 : random.nextInt(512));
        return random.nextInt(10) == 0 ? random.nextInt() : bits;
    }

    private String shortText(int namespace) {
        String text = text(namespace, random.nextInt(4));
        for (int i = 0; i < 10 && text.length() > 24; i++) {
            text = text(namespace, random.nextInt(4));
        }
        return random.nextInt(10) == 0 ? "" : text;
    }

    private String text(int namespace, int depth) {
        StringBuilder text = new StringBuilder(part(namespace, depth));
        for (int i = random.nextInt(4); i > 0; i--) {
            text.append((free ? "&||||-" : "&&||--").charAt(random.nextInt(6))).append(part(namespace, depth));
        }
        return text.toString();
    }

    private String part(int namespace, int depth) {
        int kind = random.nextInt(8);
        if (kind > 5 && depth > 0) {
            return "(" + text(namespace, depth - 1) + ")";
        }
        if (kind < 3) {
            return random.nextInt(200) == 0 ? "" : "T";
        }
        int other = named(namespace);
        return kind == 3 ? "c" + other : "f" + other + random.nextInt(planned.length);
    }

    /** Mostly a relation of a namespace, and more often one of the earlier relations. */
    private int named(int namespace) {
        int found = random.nextInt(1 + relations);
        for (int i = 0; i < 20 && found < planned.length && planned[found] != namespace; i++) {
            found = random.nextInt(random.nextInt(3) == 0 ? planned.length : 1 + relations);
        }
        return Math.min(9, found);
    }

    private void typeText(String where, String text) {
        for (char c : text.toCharArray()) {
            compare(where, "type", () -> store.type(c), () -> model.type(c), c);
        }
        sound(where, relations - 1);
    }

    private void newRelation(String where, int namespace, boolean users, int objects, int usersets) {
        compare(where, "relation", () -> store.relation(namespace, users, objects, usersets),
                () -> model.relation(namespace, users, objects, usersets), namespace, users ? 1 : 0, objects, usersets);
        if (!accepted && relations < 9 && namespace >= 0 && namespace < 3) {
            relations++;
        }
    }

    private void sound(String where, int relation) {
        compare(where, "sound", () -> store.sound(relation), () -> model.sound(relation), relation);
    }

    private void accept(String where) {
        compare(where, "accept", () -> store.accept(), () -> model.accept());
        accepted = Checks.answer(() -> model.change(true, -1, 0, 0, 0, 0)) == IllegalArgumentException.class;
    }

    private void anything(String where) {
        switch (random.nextInt(6)) {
            case 0 -> newRelation(where, odd(3), random.nextBoolean(), random.nextInt(), random.nextInt());
            case 1 -> typeText(where, String.valueOf("Tcf0123&|-()x".charAt(random.nextInt(13))));
            case 2 -> sound(where, odd(9));
            case 3 -> accept(where);
            default -> use(where);
        }
    }

    private void use(String where) {
        int token = token();
        int object = object();
        int relation = relationOf(object);
        int user = odd(8);
        switch (random.nextInt(20)) {
            case 0, 1, 2, 3, 4, 5 -> change(where, object, relation);
            case 6, 7 -> commit(where);
            case 8 -> crashSometimes(where);
            case 9 -> tuples(where, token);
            case 10, 11 -> compare(where, "check", () -> store.check(token, object, relation, user),
                    () -> model.check(token, object, relation, user), token, object, relation, user);
            case 12, 13, 14 -> compare(where, "expand", () -> store.expand(token, object, relation),
                    () -> model.expand(token, object, relation), token, object, relation);
            case 15, 16 -> lookup(where, token, odd(relations), user);
            case 17 -> nested(where, token, object, relation);
            case 18 -> compare(where, "watch", () -> store.watch(token), () -> model.watch(token), token);
            default -> watched(where, token);
        }
    }

    private void change(String where, int object, int relation) {
        boolean comes = random.nextInt(4) != 0;
        int sort = random.nextInt(40) == 0 ? odd(3) : random.nextInt(3);
        int a = sort == 0 ? odd(8) : object();
        int s = sort == 2 ? relationOf(a) : random.nextInt(20) - 5;
        compare(where, "change", () -> store.change(comes, object, relation, sort, a, s),
                () -> model.change(comes, object, relation, sort, a, s), comes ? 1 : 0, object, relation, sort, a, s);
    }

    private void commit(String where) {
        int most = random.nextInt(3) == 0 ? random.nextInt(9) - 1 : -1 - random.nextInt(5);
        compare(where, "commit", () -> store.commit(most), () -> model.commit(most), most);
        latestAndRecords(where);
    }

    private void crashSometimes(String where) {
        if (random.nextInt(4) == 0) {
            store.crash();
            model.crash();
            made++;
        }
        latestAndRecords(where);
    }

    private void latestAndRecords(String where) {
        compare(where, "latest", () -> store.latest(), () -> model.latest());
        compare(where, "records", () -> store.records(), () -> model.records());
    }

    private void tuples(String where, int token) {
        compare(where, "tuples", () -> store.tuples(token), () -> model.tuples(token), token);
    }

    private void lookup(String where, int token, int relation, int user) {
        compare(where, "lookup", () -> store.lookup(token, relation, user), () -> model.lookup(token, relation, user),
                token, relation, user);
    }

    private void nested(String where, int token, int object, int relation) {
        int other = object();
        int s = relationOf(other);
        compare(where, "nested", () -> store.nested(token, object, relation, other, s),
                () -> model.nested(token, object, relation, other, s), token, object, relation, other, s);
    }

    private void watched(String where, int token) {
        int k = odd(12);
        int what = odd(7);
        compare(where, "watched", () -> store.watched(token, k, what), () -> model.watched(token, k, what),
                token, k, what);
    }

    private int token() {
        int back = random.nextInt(10) - 1;
        return back < 0 && random.nextInt(3) != 0 ? model.latest() : model.latest() - Math.min(back, 8);
    }

    /** Mostly 0 .. below - 1. */
    private int odd(int below) {
        if (random.nextInt(60) == 0) {
            return random.nextInt(8) == 0 ? random.nextInt() : random.nextInt(20) - 4;
        }
        return random.nextInt(Math.max(1, below));
    }

    /** Mostly a relation of the object's namespace, if there is one. */
    private int relationOf(int object) {
        int relation = odd(relations);
        for (int i = 0; i < 20 && random.nextInt(60) != 0; i++) {
            if (relation >= 0 && relation < planned.length && planned[relation] == object / 4) {
                return relation;
            }
            relation = odd(relations);
        }
        return relation;
    }

    /** Mostly an object that has relations. */
    private int object() {
        int object = odd(12);
        for (int i = 0; i < 3 && relations > 0 && object >= 0 && object / 4 != planned[0]; i++) {
            object = odd(12);
        }
        return object;
    }
}
