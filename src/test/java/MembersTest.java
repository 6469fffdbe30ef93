/** Promises 12 to 15: check, expand, lookup, nested. */
public final class MembersTest {
    private static final Checks CHECKS = new Checks();
    private static final Class<?> ARGUMENT = IllegalArgumentException.class;
    private static final Class<?> STATE = IllegalStateException.class;

    public static void main(String[] args) {
        operators();
        fromLeftToRight();
        usersets();
        sameObject();
        throughObjects();
        leastSolution();
        levels();
        barredLateStaysInNoRing();
        manyLevels();
        soundLeavesTheRule();
        versionsFarApart();
        longChain();
        wrongNames();
        tooOld();
        nesting();
        wrongNesting();
        CHECKS.end();
    }

    /** Relations 0, 1, 2 of object 0 have the users of the masks; the rule is that of relation 3. */
    private static int worked(String rule, int zero, int one, int two, int own) {
        RelationStore x = new RelationStore(0);
        for (int r = 0; r < 3; r++) {
            x.relation(0, true, 0, 0);
        }
        Checks.relation(x, 0, true, 0, 0, rule);
        x.accept();
        int[] masks = {zero, one, two, own};
        for (int r = 0; r < 4; r++) {
            putUsers(x, 0, r, masks[r]);
        }
        return x.expand(x.latest(), 0, 3);
    }

    private static void putUsers(RelationStore x, int object, int relation, int mask) {
        for (int user = 0; user < 8; user++) {
            if ((mask >> user & 1) != 0) {
                Checks.comes(x, object, relation, 0, user, 0);
                x.commit(-1);
            }
        }
    }

    private static void operators() {
        CHECKS.due("T", 0b1010, () -> worked("T", 3, 5, 9, 0b1010));
        CHECKS.due("empty text", 0b1010, () -> worked("", 3, 5, 9, 0b1010));
        CHECKS.due("c", 0b11000011, () -> worked("c0", 0b11000011, 5, 9, 7));
        CHECKS.due("|", 0b0111, () -> worked("c0|c1", 0b0011, 0b0101, 0, 0));
        CHECKS.due("&", 0b0001, () -> worked("c0&c1", 0b0011, 0b0101, 0, 0));
        CHECKS.due("-", 0b0010, () -> worked("c0-c1", 0b0011, 0b0101, 0, 0));
        CHECKS.due("T in the second side", 0b0010, () -> worked("c0-T", 0b0011, 0, 0, 0b0101));
        CHECKS.due("T twice", 0, () -> worked("T-T", 0, 0, 0, 0b0101));
        CHECKS.due("brackets", 0b0011, () -> worked("(((((c0)))))", 0b0011, 0, 0, 0));
    }

    private static void fromLeftToRight() {
        int a = 0b00001111;
        int b = 0b00110011;
        int c = 0b01010101;
        CHECKS.due("a|b&c", (a | b) & c, () -> worked("c0|c1&c2", a, b, c, 0));
        CHECKS.due("a|(b&c)", a | b & c, () -> worked("c0|(c1&c2)", a, b, c, 0));
        CHECKS.due("a-b-c", a & ~b & ~c, () -> worked("c0-c1-c2", a, b, c, 0));
        CHECKS.due("a-(b-c)", a & ~(b & ~c), () -> worked("c0-(c1-c2)", a, b, c, 0));
        CHECKS.due("a-b|c", a & ~b | c, () -> worked("c0-c1|c2", a, b, c, 0));
        CHECKS.due("a-(b|c)", a & ~(b | c), () -> worked("c0-(c1|c2)", a, b, c, 0));
        CHECKS.due("a-b&c", a & ~b & c, () -> worked("c0-c1&c2", a, b, c, 0));
        CHECKS.due("a&b-c", a & b & ~c, () -> worked("c0&c1-c2", a, b, c, 0));
        CHECKS.due("a|b-c", (a | b) & ~c, () -> worked("c0|c1-c2", a, b, c, 0));
        CHECKS.due("deep", a & ~(b & ~(c | 3)), () -> worked("c0-(c1-(c2|(T&(T))))", a, b, c, 3));
        CHECKS.due("all depths wait", 1 << 5,
                () -> worked("T-(T-(T-(T-(T-(T-c0)))))", 1 << 5, 0, 0, 1 << 5));
        CHECKS.due("all depths wait, and one is free", 0,
                () -> worked("T-(T-(T-(T-(T-(T-c0)))))", 0, 0, 0, 1 << 5));
    }

    private static void usersets() {
        RelationStore x = new RelationStore(7);
        x.relation(0, true, 7, 7);
        x.relation(1, true, 7, 7);
        Checks.relation(x, 1, true, 0, 0, "c1-T");
        x.accept();
        Checks.comes(x, 0, 0, 2, 5, 1);
        Checks.comes(x, 0, 0, 2, 5, 2);
        Checks.comes(x, 5, 1, 0, 6, 0);
        Checks.comes(x, 6, 1, 0, 1, 0);
        x.commit(-1);
        CHECKS.due("members of a userset", 64, () -> x.expand(1, 0, 0));
        CHECKS.due("check of one", true, () -> x.check(1, 0, 0, 6));
        CHECKS.due("check of another", false, () -> x.check(1, 0, 0, 1));
        x.change(false, 0, 0, 2, 5, 1);
        Checks.comes(x, 5, 2, 0, 6, 0);
        x.commit(-1);
        CHECKS.due("members of a difference", 0, () -> x.expand(2, 0, 0));
        CHECKS.due("the older version", 64, () -> x.expand(1, 0, 0));
        Checks.comes(x, 0, 0, 2, 6, 1);
        Checks.comes(x, 0, 0, 1, 5, 1);
        x.commit(-1);
        CHECKS.due("a user by a userset and no user by an object", 2, () -> x.expand(3, 0, 0));
        CHECKS.due("lookup in namespace 1", 4, () -> x.lookup(3, 1, 1));
        CHECKS.due("lookup in namespace 0", 1, () -> x.lookup(3, 0, 1));
        CHECKS.due("lookup of none", 0, () -> x.lookup(3, 0, 7));
        CHECKS.due("lookup in version 0", 0, () -> x.lookup(0, 0, 1));
    }

    private static void sameObject() {
        RelationStore x = new RelationStore(0);
        x.relation(2, true, 0, 0);
        Checks.relation(x, 2, true, 0, 0, "c0|T");
        x.accept();
        Checks.comes(x, 8, 0, 0, 0, 0);
        Checks.comes(x, 11, 0, 0, 7, 0);
        Checks.comes(x, 11, 1, 0, 3, 0);
        x.commit(-1);
        CHECKS.due("object 8", 1, () -> x.expand(1, 8, 1));
        CHECKS.due("object 9", 0, () -> x.expand(1, 9, 1));
        CHECKS.due("object 11", 136, () -> x.expand(1, 11, 1));
        CHECKS.due("lookup of 7", 8, () -> x.lookup(1, 1, 7));
        CHECKS.due("lookup of 0", 1, () -> x.lookup(1, 1, 0));
        CHECKS.due("lookup of 3 in relation 0", 0, () -> x.lookup(1, 0, 3));
    }

    private static void throughObjects() {
        RelationStore x = new RelationStore(0);
        x.relation(0, true, 7, 7);
        x.relation(1, true, 7, 7);
        Checks.relation(x, 0, true, 0, 0, "f01|f00");
        Checks.relation(x, 0, true, 0, 0, "f01");
        x.accept();
        Checks.comes(x, 0, 0, 1, 4, 0);
        Checks.comes(x, 0, 0, 1, 1, 0);
        Checks.comes(x, 0, 0, 1, 8, 0);
        Checks.comes(x, 0, 0, 0, 0, 0);
        Checks.comes(x, 0, 0, 2, 7, 1);
        x.commit(-1);
        Checks.comes(x, 4, 1, 0, 4, 0);
        Checks.comes(x, 5, 1, 0, 5, 0);
        Checks.comes(x, 1, 0, 0, 1, 0);
        Checks.comes(x, 7, 1, 0, 7, 0);
        x.commit(-1);
        CHECKS.due("objects of both namespaces", 18, () -> x.expand(2, 0, 2));
        CHECKS.due("objects of one namespace", 16, () -> x.expand(2, 0, 3));
        CHECKS.due("another object", 0, () -> x.expand(2, 1, 2));
        CHECKS.due("lookup through objects", 1, () -> x.lookup(2, 3, 4));
        CHECKS.due("tuples of the relation itself", 129, () -> x.expand(2, 0, 0));
        throughManyObjects();
    }

    private static void throughManyObjects() {
        RelationStore x = new RelationStore(0);
        x.relation(2, true, 0, 0);
        Checks.relation(x, 1, true, 0, 0, "T|f20");
        x.relation(1, false, 4, 0);
        x.accept();
        for (int i = 0; i < 4; i++) {
            Checks.comes(x, 8 + i, 0, 0, 2 * i, 0);
        }
        Checks.comes(x, 6, 1, 0, 7, 0);
        x.commit(-1);
        for (int i = 0; i < 4; i++) {
            Checks.comes(x, 6, 2, 1, 8 + i, 0);
        }
        x.commit(-1);
        CHECKS.due("four objects", 0b11010101, () -> x.expand(2, 6, 1));
        CHECKS.due("no object", 0, () -> x.expand(2, 4, 1));
        CHECKS.due("objects are no members", 0, () -> x.expand(2, 6, 2));
        CHECKS.due("check through objects", true, () -> x.check(2, 6, 1, 0));
    }

    private static void leastSolution() {
        RelationStore x = new RelationStore(7);
        Checks.relation(x, 0, true, 0, 3, "c1");
        Checks.relation(x, 0, true, 0, 3, "c0");
        Checks.relation(x, 0, true, 0, 4, "T&c2|T");
        x.accept();
        Checks.comes(x, 0, 0, 0, 3, 0);
        Checks.comes(x, 0, 2, 2, 0, 2);
        Checks.comes(x, 1, 2, 2, 2, 2);
        Checks.comes(x, 2, 2, 2, 1, 2);
        x.commit(-1);
        CHECKS.due("a ring of rules has no members", 0, () -> x.expand(1, 0, 0));
        CHECKS.due("its other side", 0, () -> x.expand(1, 0, 1));
        CHECKS.due("a userset of itself", 0, () -> x.expand(1, 0, 2));
        CHECKS.due("a ring of usersets", 0, () -> x.expand(1, 1, 2));
        Checks.comes(x, 2, 2, 0, 6, 0);
        x.commit(-1);
        CHECKS.due("a ring with a user", 64, () -> x.expand(2, 1, 2));
        CHECKS.due("where the user is", 64, () -> x.expand(2, 2, 2));
        CHECKS.due("lookup in the ring", 6, () -> x.lookup(2, 2, 6));
    }

    /** The barred relation comes after the one that bars it, and grows only through a ring. */
    private static void levels() {
        RelationStore x = new RelationStore(7);
        Checks.relation(x, 0, true, 0, 1, "T-c1");
        Checks.relation(x, 0, true, 0, 4, "T");
        Checks.relation(x, 0, true, 0, 2, "T");
        x.accept();
        Checks.comes(x, 0, 1, 2, 1, 2);
        Checks.comes(x, 1, 2, 2, 2, 1);
        Checks.comes(x, 2, 1, 2, 3, 2);
        Checks.comes(x, 3, 2, 0, 5, 0);
        Checks.comes(x, 0, 0, 0, 5, 0);
        x.commit(-1);
        Checks.comes(x, 0, 0, 0, 4, 0);
        Checks.comes(x, 1, 0, 2, 0, 0);
        Checks.comes(x, 3, 1, 0, 4, 0);
        Checks.comes(x, 3, 0, 2, 1, 0);
        Checks.comes(x, 1, 0, 0, 5, 0);
        x.commit(-1);
        CHECKS.due("barred by a chain of usersets", 16, () -> x.expand(2, 0, 0));
        CHECKS.due("usersets of what is left", 48, () -> x.expand(2, 1, 0));
        CHECKS.due("barred at the end", 32, () -> x.expand(2, 3, 0));
        CHECKS.due("the older version", 0, () -> x.expand(1, 0, 0));
    }

    /** Were 0 worked out before 3, its user would stay in the ring of 1 and 2. */
    private static void barredLateStaysInNoRing() {
        RelationStore x = new RelationStore(0);
        Checks.relation(x, 0, true, 0, 0, "T-c3");
        Checks.relation(x, 0, true, 0, 0, "c0|c2");
        Checks.relation(x, 0, true, 0, 0, "c1");
        Checks.relation(x, 0, true, 0, 16, "T");
        Checks.relation(x, 0, true, 0, 0, "T");
        x.accept();
        Checks.comes(x, 2, 0, 0, 6, 0);
        Checks.comes(x, 2, 0, 0, 5, 0);
        Checks.comes(x, 2, 3, 2, 3, 4);
        Checks.comes(x, 3, 4, 0, 5, 0);
        x.commit(-1);
        for (int r = 0; r < 3; r++) {
            int relation = r;
            CHECKS.due("relation " + r, 64, () -> x.expand(1, 2, relation));
        }
        CHECKS.due("what is barred", 32, () -> x.expand(1, 2, 3));
    }

    private static void soundLeavesTheRule() {
        RelationStore x = new RelationStore(0);
        x.relation(0, true, 0, 0);
        x.relation(0, true, 0, 0);
        for (char c : "c0-(T|c0)|T".toCharArray()) {
            x.type(c);
            x.sound(1);
        }
        x.accept();
        Checks.comes(x, 0, 0, 0, 1, 0);
        Checks.comes(x, 0, 1, 0, 3, 0);
        x.commit(-1);
        CHECKS.due("a rule that was asked for often", 8, () -> x.expand(1, 0, 1));
        CHECKS.due("sound when accepted", true, () -> x.sound(1));
        Checks.comes(x, 0, 1, 0, 4, 0);
        x.commit(-1);
        CHECKS.due("the rule behind that", 24, () -> x.expand(2, 0, 1));
    }

    /** Nothing of an old version may stay where a new one, eight or sixteen later, is held. */
    private static void versionsFarApart() {
        RelationStore x = new RelationStore(7);
        Checks.relation(x, 0, true, 0, 1, "T");
        Checks.relation(x, 0, true, 0, 0, "c0|c2");
        Checks.relation(x, 0, true, 0, 0, "c1");
        x.accept();
        Checks.comes(x, 0, 0, 0, 2, 0);
        Checks.comes(x, 0, 0, 2, 1, 0);
        Checks.comes(x, 1, 0, 2, 0, 0);
        x.commit(-1);
        CHECKS.due("version 1", 4, () -> x.expand(1, 0, 2));
        x.change(false, 0, 0, 0, 2, 0);
        x.commit(-1);
        for (int v = 3; v <= 17; v++) {
            int token = v;
            Checks.comes(x, 3, 0, 0, v % 8, 0);
            CHECKS.due("commit " + v, v, () -> x.commit(-1));
            CHECKS.due("ring in version " + v, 0, () -> x.expand(token, 0, 2));
            CHECKS.due("usersets in version " + v, 0, () -> x.expand(token, 1, 0));
            CHECKS.due("users in version " + v, Math.min(8, v - 2), () -> Integer.bitCount(x.expand(token, 3, 1)));
        }
        CHECKS.due("an older one again", 8, () -> Integer.bitCount(x.expand(10, 3, 1)));
    }

    private static void manyLevels() {
        RelationStore x = new RelationStore(0);
        for (int r = 0; r < 8; r++) {
            Checks.relation(x, 1, true, 0, 0, "T-c" + (r + 1));
        }
        x.relation(1, true, 0, 0);
        CHECKS.due("nine levels", 9, () -> x.accept());
        for (int r = 0; r < 9; r++) {
            Checks.comes(x, 7, r, 0, 2, 0);
            x.commit(-1);
        }
        for (int r = 0; r < 9; r++) {
            int relation = r;
            CHECKS.due("level of " + r, r % 2 == 0 ? 4 : 0, () -> x.expand(9, 7, relation));
        }
    }

    /** A way through all 36 pairs of object and relation, against the order of their numbers. */
    private static void longChain() {
        RelationStore x = new RelationStore(0);
        for (int r = 0; r < 9; r++) {
            x.relation(0, true, 0, 511);
        }
        x.accept();
        for (int n = 0; n < 35; n++) {
            Checks.comes(x, n % 4, n / 4, 2, (n + 1) % 4, (n + 1) / 4);
            if (n % 5 == 4) {
                x.commit(-1);
            }
        }
        Checks.comes(x, 3, 8, 0, 7, 0);
        x.commit(-1);
        CHECKS.due("tuples of the chain", 36, () -> x.tuples(8));
        CHECKS.due("the chain's begin", 128, () -> x.expand(8, 0, 0));
        CHECKS.due("lookup at the begin", 15, () -> x.lookup(8, 0, 7));
        CHECKS.due("nested through all", true, () -> x.nested(8, 0, 0, 3, 8));
        CHECKS.due("nested back", false, () -> x.nested(8, 3, 8, 0, 0));
    }

    private static RelationStore two() {
        RelationStore x = new RelationStore(0);
        x.relation(0, true, 7, 7);
        x.relation(2, true, 7, 7);
        x.accept();
        return x;
    }

    private static void wrongNames() {
        RelationStore x = two();
        int[][] wrong = {{-1, 0, 0}, {1, 0, 0}, {0, -1, 0}, {0, 12, 1}, {0, 4, 0}, {0, 4, 1}, {0, 0, 1}, {0, 8, 0},
            {0, 0, -1}, {0, 0, 2}, {0, 0, 9}, {Integer.MAX_VALUE, 0, 0}, {0, Integer.MIN_VALUE, 0},
            {0, 0, Integer.MAX_VALUE}};
        for (int[] w : wrong) {
            String name = java.util.Arrays.toString(w);
            CHECKS.due("expand " + name, ARGUMENT, () -> x.expand(w[0], w[1], w[2]));
            CHECKS.due("check " + name, ARGUMENT, () -> x.check(w[0], w[1], w[2], 0));
            CHECKS.due("nested from " + name, ARGUMENT, () -> x.nested(w[0], w[1], w[2], 0, 0));
            CHECKS.due("nested to " + name, ARGUMENT, () -> x.nested(w[0], 0, 0, w[1], w[2]));
        }
        int[] users = {-1, 8, 32, Integer.MAX_VALUE, Integer.MIN_VALUE};
        for (int user : users) {
            CHECKS.due("check of user " + user, ARGUMENT, () -> x.check(0, 0, 0, user));
            CHECKS.due("lookup of user " + user, ARGUMENT, () -> x.lookup(0, 0, user));
        }
        int[] relations = {-1, 2, 9, Integer.MAX_VALUE, Integer.MIN_VALUE};
        for (int relation : relations) {
            CHECKS.due("lookup by " + relation, ARGUMENT, () -> x.lookup(0, relation, 0));
        }
        CHECKS.due("lookup of token 1", ARGUMENT, () -> x.lookup(1, 0, 0));
        CHECKS.due("lookup of token -1", ARGUMENT, () -> x.lookup(-1, 0, 0));
        CHECKS.due("check of all that is right", false, () -> x.check(0, 11, 1, 7));
        CHECKS.due("expand of all that is right", 0, () -> x.expand(0, 8, 1));
        CHECKS.due("lookup of all that is right", 0, () -> x.lookup(0, 1, 7));
    }

    private static void tooOld() {
        RelationStore x = two();
        Checks.comes(x, 0, 0, 0, 0, 0);
        x.commit(-1);
        CHECKS.due("expand of an old token", STATE, () -> x.expand(0, 0, 0));
        CHECKS.due("check of an old token", STATE, () -> x.check(0, 0, 0, 0));
        CHECKS.due("lookup of an old token", STATE, () -> x.lookup(0, 0, 0));
        CHECKS.due("nested of an old token", STATE, () -> x.nested(0, 0, 0, 0, 0));
        CHECKS.due("expand, old and wrong", ARGUMENT, () -> x.expand(0, 4, 0));
        CHECKS.due("check, old and wrong", ARGUMENT, () -> x.check(0, 0, 0, 8));
        CHECKS.due("lookup, old and wrong", ARGUMENT, () -> x.lookup(0, 2, 0));
        CHECKS.due("nested, old and wrong", ARGUMENT, () -> x.nested(0, 0, 0, 0, 1));
        CHECKS.due("expand of the latest", 1, () -> x.expand(1, 0, 0));
    }

    private static void nesting() {
        RelationStore x = new RelationStore(7);
        Checks.relation(x, 0, true, 7, 7, "c0");
        Checks.relation(x, 2, true, 7, 7, "T");
        x.accept();
        Checks.comes(x, 0, 0, 2, 9, 1);
        Checks.comes(x, 9, 1, 2, 3, 0);
        Checks.comes(x, 3, 0, 2, 10, 1);
        Checks.comes(x, 0, 0, 1, 8, 1);
        Checks.comes(x, 11, 1, 2, 11, 1);
        x.commit(-1);
        CHECKS.due("one step", true, () -> x.nested(1, 0, 0, 9, 1));
        CHECKS.due("two steps", true, () -> x.nested(1, 0, 0, 3, 0));
        CHECKS.due("three steps", true, () -> x.nested(1, 0, 0, 10, 1));
        CHECKS.due("in the middle", true, () -> x.nested(1, 9, 1, 10, 1));
        CHECKS.due("no step", false, () -> x.nested(1, 0, 0, 0, 0));
        CHECKS.due("back", false, () -> x.nested(1, 9, 1, 0, 0));
        CHECKS.due("an object is no userset", false, () -> x.nested(1, 0, 0, 8, 1));
        CHECKS.due("to itself", true, () -> x.nested(1, 11, 1, 11, 1));
        CHECKS.due("in version 0", false, () -> x.nested(0, 0, 0, 9, 1));
        Checks.comes(x, 10, 1, 2, 0, 0);
        x.commit(-1);
        CHECKS.due("a ring", true, () -> x.nested(2, 0, 0, 0, 0));
        CHECKS.due("a ring elsewhere", true, () -> x.nested(2, 3, 0, 9, 1));
        CHECKS.due("the older version", false, () -> x.nested(1, 3, 0, 9, 1));
        x.change(false, 9, 1, 2, 3, 0);
        x.commit(-1);
        CHECKS.due("a ring that was cut", false, () -> x.nested(3, 0, 0, 0, 0));
        CHECKS.due("what is left of it", true, () -> x.nested(3, 3, 0, 9, 1));
    }

    private static void wrongNesting() {
        RelationStore x = two();
        CHECKS.due("both are right", false, () -> x.nested(0, 0, 0, 8, 1));
        CHECKS.due("relation of another namespace", ARGUMENT, () -> x.nested(0, 0, 0, 8, 0));
        CHECKS.due("no relation", ARGUMENT, () -> x.nested(0, 0, 0, 8, 3));
        CHECKS.due("no object", ARGUMENT, () -> x.nested(0, 0, 0, 12, 1));
        CHECKS.due("first of another namespace", ARGUMENT, () -> x.nested(0, 8, 0, 8, 1));
    }
}
