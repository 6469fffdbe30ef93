/** Promises 1 to 5: a new object, relation, type, sound, accept. */
public final class ConfigurationTest {
    private static final Checks CHECKS = new Checks();
    private static final Class<?> UNSUPPORTED = UnsupportedOperationException.class;
    private static final Class<?> ARGUMENT = IllegalArgumentException.class;
    private static final Class<?> STATE = IllegalStateException.class;

    public static void main(String[] args) {
        newObject();
        keptVersions();
        newRelation();
        typing();
        soundTexts();
        unsoundTexts();
        namesInTexts();
        depth();
        soundChangesWithRelations();
        acceptOrder();
        barredRings();
        acceptedStays();
        CHECKS.end();
    }

    private static void newObject() {
        RelationStore x = new RelationStore(0);
        CHECKS.due("latest of a new object", 0, () -> x.latest());
        CHECKS.due("records of a new object", 0, () -> x.records());
        CHECKS.due("tuples of version 0", 0, () -> x.tuples(0));
        CHECKS.due("watch of version 0", 0, () -> x.watch(0));
        CHECKS.due("tuples of version 1", ARGUMENT, () -> x.tuples(1));
        CHECKS.due("change before accept", UNSUPPORTED, () -> x.change(true, 0, 0, 0, 0, 0));
        CHECKS.due("change of no tuple before accept", UNSUPPORTED, () -> x.change(true, 99, 0, 0, 0, 0));
        CHECKS.due("commit of nothing", STATE, () -> x.commit(-1));
        CHECKS.due("first relation", 0, () -> x.relation(0, true, 0, 0));
        CHECKS.due("expand before accept", ARGUMENT, () -> x.expand(0, 0, 0));
        CHECKS.due("check before accept", ARGUMENT, () -> x.check(0, 0, 0, 0));
        CHECKS.due("lookup before accept", ARGUMENT, () -> x.lookup(0, 0, 0));
        CHECKS.due("nested before accept", ARGUMENT, () -> x.nested(0, 0, 0, 0, 0));
    }

    private static void keptVersions() {
        int[] arguments = {0, 1, 2, 3, 4, 5, 6, 7, 8, 13, -1, -8, Integer.MAX_VALUE, Integer.MIN_VALUE};
        int[] kept = {1, 2, 3, 4, 5, 6, 7, 8, 1, 6, 8, 1, 8, 1};
        for (int i = 0; i < arguments.length; i++) {
            RelationStore x = new RelationStore(arguments[i]);
            x.relation(0, true, 0, 0);
            x.accept();
            for (int v = 1; v <= 10; v++) {
                x.change(true, 0, 0, 0, v % 8, 0);
                x.commit(-1);
            }
            int oldest = 10 - kept[i] + 1;
            String name = "kept " + arguments[i];
            CHECKS.due(name + ", the oldest", Math.min(8, oldest), () -> x.tuples(oldest));
            CHECKS.due(name + ", one older", STATE, () -> x.tuples(oldest - 1));
            CHECKS.due(name + ", version 0", STATE, () -> x.tuples(0));
            CHECKS.due(name + ", the latest", 8, () -> x.tuples(10));
        }
    }

    private static void newRelation() {
        RelationStore x = new RelationStore(0);
        CHECKS.due("namespace -1", -1, () -> x.relation(-1, true, 0, 0));
        CHECKS.due("namespace 3", -1, () -> x.relation(3, true, 0, 0));
        CHECKS.due("namespace lowest", -1, () -> x.relation(Integer.MIN_VALUE, true, 0, 0));
        for (int i = 0; i < 9; i++) {
            int number = i;
            CHECKS.due("relation " + i, i, () -> x.relation(number % 3, true, -1, -1));
        }
        CHECKS.due("a tenth relation", -1, () -> x.relation(0, true, 0, 0));
        CHECKS.due("accept of nine", 9, () -> x.accept());
        CHECKS.due("relation when accepted", -1, () -> x.relation(0, true, 0, 0));
        RelationStore y = new RelationStore(0);
        y.relation(0, true, 0, 0);
        y.accept();
        CHECKS.due("second relation when accepted", -1, () -> y.relation(0, true, 0, 0));
    }

    private static void typing() {
        RelationStore x = new RelationStore(0);
        CHECKS.due("type without a relation", false, () -> x.type('T'));
        x.relation(0, true, 0, 0);
        CHECKS.due("type of any character", true, () -> x.type('\uffff'));
        for (int i = 1; i < 24; i++) {
            CHECKS.due("character " + i, true, () -> x.type(' '));
        }
        CHECKS.due("character 25", false, () -> x.type('T'));
        x.relation(0, true, 0, 0);
        CHECKS.due("sound of the empty text", true, () -> x.sound(1));
        CHECKS.due("type into the second", true, () -> x.type('x'));
        CHECKS.due("sound of the second", false, () -> x.sound(1));
        RelationStore y = new RelationStore(0);
        y.relation(0, true, 0, 0);
        y.accept();
        CHECKS.due("type when accepted", false, () -> y.type('T'));
        fullTextIsRead();
    }

    private static void fullTextIsRead() {
        RelationStore x = new RelationStore(0);
        Checks.relation(x, 0, true, 0, 0, "T|T|T|T|T|T|T|T|T|T|T|c0");
        CHECKS.due("24 characters", true, () -> x.sound(0));
        CHECKS.due("one more", false, () -> x.type('x'));
        CHECKS.due("24 characters still", true, () -> x.sound(0));
        String[] ends = {"c0|T", "f00|", "T|f0", "T|(T", "c0&c", "c0&(", "c0&f"};
        for (String end : ends) {
            String text = "T|T|T|T|T|T|T|T|T|T|" + end;
            CHECKS.due("sound " + text, end.equals("c0|T"), () -> isSound(text));
        }
    }

    /** Relations 0 and 1 are of namespace 0, 2 is of namespace 1; the text is that of 1. */
    private static boolean isSound(String text) {
        RelationStore x = new RelationStore(0);
        x.relation(0, true, 0, 0);
        x.relation(1, true, 0, 0);
        x.relation(0, true, 0, 0);
        Checks.typeAll(x, text);
        return x.sound(2);
    }

    private static void soundTexts() {
        String[] texts = {"", "T", "c0", "c2", "f00", "f01", "f21", "f22", "T|c0", "T&c0-f01", "(T)", "((T))",
            "T-(c0-T)|T", "(T)&(c2)", "(T|c0)-(f01&T)", "T-T-T-T"};
        for (String text : texts) {
            CHECKS.due("sound " + text, true, () -> isSound(text));
        }
    }

    private static void unsoundTexts() {
        String[] texts = {"t", " ", "T ", " T", "TT", "c", "cT", "c00", "f", "f0", "f0T", "f000", "|", "T|", "|T",
            "T||T", "T&-T", "()", "(", ")", "(T", "T)", "(T))", "((T)", "T(T)", "(T)(T)", "(T)T", "T|()", "C0", "F00",
            "T+T", "T|(", "c0c0", "-T", "0", "T\u0000", "c\u0660", "c/", "c:", "f/0", "f0:"};
        for (String text : texts) {
            CHECKS.due("sound " + text, false, () -> isSound(text));
        }
    }

    private static void namesInTexts() {
        String[] texts = {"c1", "c3", "c9", "f10", "f11", "f03", "f30", "f09", "f90", "T|c1", "(f12)"};
        for (String text : texts) {
            CHECKS.due("sound " + text, false, () -> isSound(text));
        }
        RelationStore x = new RelationStore(0);
        CHECKS.due("sound of no relation", false, () -> x.sound(0));
        x.relation(0, true, 0, 0);
        CHECKS.due("sound of -1", false, () -> x.sound(-1));
        CHECKS.due("sound of 1", false, () -> x.sound(1));
        CHECKS.due("sound of 9", false, () -> x.sound(9));
        CHECKS.due("sound of the highest", false, () -> x.sound(Integer.MAX_VALUE));
        CHECKS.due("sound of 0", true, () -> x.sound(0));
    }

    private static void depth() {
        CHECKS.due("5 deep", true, () -> isSound("(((((T)))))"));
        CHECKS.due("6 deep", false, () -> isSound("((((((T))))))"));
        CHECKS.due("5 deep twice", true, () -> isSound("(((((T)))))|(((((T)))))"));
        CHECKS.due("5 deep at the end", true, () -> isSound("T-(T-(T-(T-(T-(T-T)))))"));
    }

    private static void soundChangesWithRelations() {
        RelationStore x = new RelationStore(0);
        Checks.relation(x, 0, true, 0, 0, "c1");
        CHECKS.due("c1 with one relation", false, () -> x.sound(0));
        CHECKS.due("accept", ARGUMENT, () -> x.accept());
        x.relation(0, true, 0, 0);
        CHECKS.due("c1 with two relations", true, () -> x.sound(0));
        CHECKS.due("accept of two", 2, () -> x.accept());
        CHECKS.due("sound when accepted", true, () -> x.sound(0));
        RelationStore y = new RelationStore(0);
        Checks.relation(y, 0, true, 0, 0, "c1");
        y.relation(1, true, 0, 0);
        CHECKS.due("c1 of another namespace", false, () -> y.sound(0));
    }

    private static void acceptOrder() {
        RelationStore x = new RelationStore(0);
        CHECKS.due("accept of none", UNSUPPORTED, () -> x.accept());
        Checks.relation(x, 0, true, 0, 0, "T-c0");
        CHECKS.due("accept of a ring", STATE, () -> x.accept());
        Checks.relation(x, 0, true, 0, 0, "x");
        CHECKS.due("accept of a ring and no rule", ARGUMENT, () -> x.accept());
        CHECKS.due("still nothing accepted", 2, () -> x.relation(0, true, 0, 0));
        RelationStore y = new RelationStore(0);
        y.relation(0, true, 0, 0);
        CHECKS.due("accept", 1, () -> y.accept());
        CHECKS.due("accept again", UNSUPPORTED, () -> y.accept());
    }

    private static Object accept(String first, int usersets, String second, int secondUsersets) {
        RelationStore x = new RelationStore(0);
        Checks.relation(x, 0, true, 0, usersets, first);
        Checks.relation(x, 0, true, 0, secondUsersets, second);
        return x.accept();
    }

    private static void barredRings() {
        CHECKS.due("plain ring", 2, () -> accept("c1", 0, "c0", 0));
        CHECKS.due("barred to the other, plain back", STATE, () -> accept("T-c1", 0, "c0", 0));
        CHECKS.due("barred by the later one", STATE, () -> accept("c1", 0, "T-c0", 0));
        CHECKS.due("barred both ways", STATE, () -> accept("T-c1", 0, "T-c0", 0));
        CHECKS.due("barred one way", 2, () -> accept("T-c1", 0, "T", 0));
        CHECKS.due("first side", 2, () -> accept("c1-T", 0, "c0", 0));
        CHECKS.due("union behind a difference", 2, () -> accept("T-T|c1", 0, "c0", 0));
        CHECKS.due("difference behind a union", STATE, () -> accept("T|T-c1", 0, "c0", 0));
        CHECKS.due("second of two differences", STATE, () -> accept("T-T-c1", 0, "c0", 0));
        CHECKS.due("first of two differences", STATE, () -> accept("T-c1-T", 0, "c0", 0));
        CHECKS.due("in brackets", STATE, () -> accept("T-(T&c1)", 0, "c0", 0));
        CHECKS.due("barred twice", STATE, () -> accept("T-(T-c1)", 0, "c0", 0));
        CHECKS.due("first side in barred brackets", STATE, () -> accept("T-(c1-T)", 0, "c0", 0));
        CHECKS.due("behind barred brackets", 2, () -> accept("T-(T)|c1", 0, "c0", 0));
        CHECKS.due("through usersets", STATE, () -> accept("T-c1", 0, "T", 1));
        CHECKS.due("usersets without T", 2, () -> accept("T-c1", 0, "c1", 1));
        CHECKS.due("barred usersets", STATE, () -> accept("c0-T", 2, "c0", 0));
        CHECKS.due("barred own usersets", STATE, () -> accept("c1-T", 1, "T", 0));
        CHECKS.due("own usersets", 2, () -> accept("T-c1", 1, "T", 2));
        CHECKS.due("usersets of an empty text", STATE, () -> accept("T-c1", 0, "", 1));
        CHECKS.due("usersets of relations that are not there", 2, () -> accept("c1-T", 0x7ffffffc, "T", -4));
        CHECKS.due("f needs x", STATE, () -> accept("T-c1", 0, "f10", 0));
        CHECKS.due("f needs t", STATE, () -> accept("T-c1", 0, "f01", 0));
        CHECKS.due("barred f bars t", STATE, () -> accept("T-f01", 0, "T", 0));
        CHECKS.due("barred f bars x", STATE, () -> accept("T-f10", 0, "T", 0));
        CHECKS.due("barred f without a ring", 2, () -> accept("T-f11", 0, "T", 0));
        CHECKS.due("itself", STATE, () -> accept("T-c0", 0, "T", 0));
        CHECKS.due("the first of several needs", STATE, () -> accept("T-c1", 0, "c0|T|c1", 0));
        longRing();
        ringsInAllOrders();
    }

    /** Relation a needs b, b needs c, and c bars a: wherever they stand, they are refused. */
    private static void ringsInAllOrders() {
        int[][] orders = {{0, 1, 2}, {0, 2, 1}, {1, 0, 2}, {1, 2, 0}, {2, 0, 1}, {2, 1, 0}};
        for (int[] order : orders) {
            CHECKS.due("ring of three", STATE, () -> acceptThree(order, "c", "c", "T-c"));
            CHECKS.due("plain ring of three", 3, () -> acceptThree(order, "c", "c", "T|c"));
            CHECKS.due("no ring of three", 3, () -> acceptThree(order, "T-c", "T-c", "T"));
        }
    }

    private static Object acceptThree(int[] order, String... rules) {
        String[] texts = new String[3];
        for (int i = 0; i < 3; i++) {
            texts[order[i]] = rules[i].equals("T") ? "T" : rules[i] + order[(i + 1) % 3];
        }
        RelationStore x = new RelationStore(0);
        for (String text : texts) {
            Checks.relation(x, 0, true, 0, 0, text);
        }
        return x.accept();
    }

    private static void longRing() {
        RelationStore x = new RelationStore(0);
        Checks.relation(x, 0, true, 0, 0, "T-c1");
        for (int r = 1; r < 8; r++) {
            Checks.relation(x, 0, true, 0, 0, "c" + (r + 1));
        }
        x.relation(0, true, 0, 0);
        CHECKS.due("soundness of the ring's last", true, () -> x.sound(7));
        Checks.typeAll(x, "c0");
        CHECKS.due("a ring through nine", STATE, () -> x.accept());
    }

    private static void acceptedStays() {
        RelationStore x = new RelationStore(0);
        x.relation(0, true, 0, 0);
        x.accept();
        x.crash();
        CHECKS.due("accept behind a crash", UNSUPPORTED, () -> x.accept());
        CHECKS.due("change behind a crash", 1, () -> x.change(true, 0, 0, 0, 0, 0));
        CHECKS.due("expand of version 0", 0, () -> x.expand(0, 0, 0));
    }
}
