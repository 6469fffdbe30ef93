/** The edges of what has a number: users, objects, namespaces, relations, sorts, and what is listed. */
public final class NamesEdgesTest {
    private static final Checks CHECKS = new Checks();
    private static final Class<?> ARGUMENT = IllegalArgumentException.class;
    private static final int LOWEST = Integer.MIN_VALUE;
    private static final int HIGHEST = Integer.MAX_VALUE;
    private static final int[] AROUND = {LOWEST, -33, -32, -8, -5, -4, -3, -2, -1, 0, 1, 2, 3, 4, 5, 6, 7, 8, 9, 10, 11,
        12, 13, 15, 16, 31, 32, 33, 64, 256, HIGHEST};

    public static void main(String[] args) {
        users();
        objects();
        namespacesOfObjects();
        namespacesOfUsersets();
        nineRelations();
        relationsThatAreThere();
        usersListed();
        objectsListed();
        usersetsListed();
        bitsOfNoRelation();
        bitsOfLaterRelations();
        sorts();
        relationWithoutMeaning();
        CHECKS.end();
    }

    private static boolean isIn(int low, int value, int high) {
        return value >= low && value <= high;
    }

    private static Object dueIf(boolean right, Object answer) {
        return right ? answer : ARGUMENT;
    }

    private static void users() {
        CHECKS.sentence("There are USERS 0 .. 7");
        RelationStore asked = Stores.open(0);
        for (int user : AROUND) {
            boolean right = isIn(0, user, 7);
            RelationStore x = Stores.open(0);
            CHECKS.due("change of user " + user, dueIf(right, 1), () -> x.change(true, 0, 0, 0, user, 0));
            CHECKS.due("check of user " + user, dueIf(right, false), () -> asked.check(0, 0, 0, user));
            CHECKS.due("lookup of user " + user, dueIf(right, 0), () -> asked.lookup(0, 0, user));
        }
        Stores.fill(asked, 1);
        asked.change(true, 3, 0, 0, 7, 0);
        asked.commit(-1);
        CHECKS.due("user 0 is a member", true, () -> asked.check(1, 0, 0, 0));
        CHECKS.due("user 7 is a member", true, () -> asked.check(1, 3, 0, 7));
        CHECKS.due("lookup of the lowest user", 1, () -> asked.lookup(1, 0, 0));
        CHECKS.due("lookup of the highest user", 8, () -> asked.lookup(1, 0, 7));
        CHECKS.due("expand of the highest user", 128, () -> asked.expand(1, 3, 0));
    }

    private static void objects() {
        CHECKS.sentence("OBJECTS 0 .. 11");
        RelationStore asked = Stores.open(0);
        for (int object : AROUND) {
            boolean right = isIn(0, object, 11);
            int relation = right ? object / 4 : object < 0 ? 0 : 2;
            RelationStore x = Stores.open(0);
            CHECKS.due("change of object " + object, dueIf(right, 1), () -> x.change(true, object, relation, 0, 0, 0));
            RelationStore y = Stores.open(0);
            CHECKS.due("subject object " + object, dueIf(right, 1), () -> y.change(true, 0, 0, 1, object, 0));
            RelationStore z = Stores.open(0);
            CHECKS.due("userset of object " + object, dueIf(right, 1), () -> z.change(true, 0, 0, 2, object, relation));
            CHECKS.due("check of object " + object, dueIf(right, false), () -> asked.check(0, object, relation, 0));
            CHECKS.due("expand of object " + object, dueIf(right, 0), () -> asked.expand(0, object, relation));
            CHECKS.due("nested from object " + object, dueIf(right, false),
                    () -> asked.nested(0, object, relation, 0, 0));
            CHECKS.due("nested to object " + object, dueIf(right, false),
                    () -> asked.nested(0, 0, 0, object, relation));
        }
    }

    private static void namespacesOfObjects() {
        CHECKS.sentence("object o is of NAMESPACE o / 4 (0, 1, 2)");
        RelationStore asked = Stores.open(0);
        for (int relation = 0; relation < 3; relation++) {
            int r = relation;
            for (int object : AROUND) {
                boolean right = isIn(4 * relation, object, 4 * relation + 3);
                String name = " of object " + object + " and relation " + relation;
                RelationStore x = Stores.open(0);
                CHECKS.due("change" + name, dueIf(right, 1), () -> x.change(false, object, r, 0, 0, 0));
                CHECKS.due("check" + name, dueIf(right, false), () -> asked.check(0, object, r, 0));
                CHECKS.due("expand" + name, dueIf(right, 0), () -> asked.expand(0, object, r));
                CHECKS.due("nested from" + name, dueIf(right, false), () -> asked.nested(0, object, r, 11, 2));
                CHECKS.due("nested to" + name, dueIf(right, false), () -> asked.nested(0, 11, 2, object, r));
            }
        }
    }

    private static void namespacesOfUsersets() {
        CHECKS.sentence("2 a userset: an object and a relation of its namespace");
        for (int relation = 0; relation < 3; relation++) {
            int s = relation;
            for (int object : AROUND) {
                boolean right = isIn(4 * relation, object, 4 * relation + 3);
                RelationStore x = Stores.open(0);
                CHECKS.due("userset of object " + object + " and relation " + s, dueIf(right, 1),
                        () -> x.change(true, 0, 0, 2, object, s));
            }
        }
    }

    private static void nineRelations() {
        CHECKS.sentence("RELATIONS 0, 1, .. (at most 9)");
        for (int there = 0; there <= 9; there++) {
            int before = there;
            RelationStore x = Stores.told(there);
            CHECKS.due("a relation behind " + there, there < 9 ? before : -1, () -> x.relation(2, true, 0, 0));
            CHECKS.due("how many behind " + there, Math.min(9, there + 1), () -> x.accept());
        }
    }

    /** With so many relations the last of them is there, and the next one is not. */
    private static void relationsThatAreThere() {
        for (int there = 1; there <= 9; there++) {
            RelationStore x = Stores.told(there);
            x.accept();
            int[] asked = {LOWEST, -1, 0, there - 1, there, there + 1, 9, 10, 32, HIGHEST};
            for (int relation : asked) {
                boolean right = isIn(0, relation, there - 1);
                String name = " of relation " + relation + " with " + there;
                CHECKS.due("sound" + name, right, () -> x.sound(relation));
                CHECKS.due("check" + name, dueIf(right, false), () -> x.check(0, 3, relation, 0));
                CHECKS.due("expand" + name, dueIf(right, 0), () -> x.expand(0, 3, relation));
                CHECKS.due("lookup" + name, dueIf(right, 0), () -> x.lookup(0, relation, 0));
                CHECKS.due("nested from" + name, dueIf(right, false), () -> x.nested(0, 3, relation, 0, 0));
                CHECKS.due("nested to" + name, dueIf(right, false), () -> x.nested(0, 0, 0, 3, relation));
                CHECKS.due("change" + name, dueIf(right, 1), () -> x.change(true, 3, relation, 0, 0, 0));
                x.crash();
                CHECKS.due("change of a userset" + name, dueIf(right, 1), () -> x.change(true, 0, 0, 2, 3, relation));
                x.crash();
            }
        }
    }

    private static void usersListed() {
        CHECKS.sentence("For each it is LISTED what may be a subject of its tuples: users or not");
        for (int user = 0; user < 8; user++) {
            int a = user;
            RelationStore x = new RelationStore(0);
            x.relation(0, true, 0, 0);
            x.relation(0, false, 7, 511);
            x.accept();
            CHECKS.due("user " + a + ", listed", 1, () -> x.change(true, 0, 0, 0, a, 0));
            CHECKS.due("user " + a + ", not listed", ARGUMENT, () -> x.change(true, 0, 1, 0, a, 0));
            CHECKS.due("user " + a + " goes, not listed", ARGUMENT, () -> x.change(false, 0, 1, 0, a, 0));
        }
    }

    private static void objectsListed() {
        CHECKS.sentence("objects of some namespaces (bit n for n)");
        int[] masks = {0, 1, 2, 3, 4, 5, 6, 7, 8, 15, -8, -1, LOWEST, HIGHEST};
        for (int mask : masks) {
            for (int object : AROUND) {
                RelationStore x = new RelationStore(0);
                x.relation(1, false, mask, 511);
                x.accept();
                boolean right = isIn(0, object, 11) && (mask & 1 << object / 4) != 0;
                CHECKS.due("object " + object + " with " + mask, dueIf(right, 1), () -> x.change(true, 4, 0, 1, object, 0));
            }
        }
    }

    private static void usersetsListed() {
        CHECKS.sentence("USERSETS of some relations (bit s for s");
        for (int listed = 0; listed < 9; listed++) {
            RelationStore x = new RelationStore(0);
            for (int r = 0; r < 9; r++) {
                x.relation(0, true, 7, 1 << listed);
            }
            x.accept();
            for (int s = -1; s <= 9; s++) {
                int relation = s;
                CHECKS.due("userset of " + s + ", listed is " + listed, dueIf(s == listed, 1),
                        () -> x.change(true, 0, 8, 2, 0, relation));
            }
        }
        RelationStore none = new RelationStore(0);
        none.relation(0, true, 7, 0);
        none.accept();
        CHECKS.due("no usersets are listed", ARGUMENT, () -> none.change(true, 0, 0, 2, 0, 0));
    }

    private static void bitsOfNoRelation() {
        CHECKS.sentence("bits of relations that are not there mean nothing");
        RelationStore x = new RelationStore(0);
        x.relation(0, true, 0, -1);
        x.relation(0, true, 0, -4);
        Checks.typeAll(x, "c0-T");
        CHECKS.due("nothing is barred by them", 2, () -> x.accept());
        int[] wrong = {-32, -31, -1, 2, 3, 8, 9, 31, 32, 33, 64, LOWEST, HIGHEST};
        for (int s : wrong) {
            CHECKS.due("userset of " + s, ARGUMENT, () -> x.change(true, 0, 0, 2, 0, s));
        }
        CHECKS.due("userset of 1", 1, () -> x.change(true, 0, 0, 2, 0, 1));
        CHECKS.due("userset of 1 where it is not listed", ARGUMENT, () -> x.change(true, 0, 1, 2, 0, 1));
        RelationStore nine = new RelationStore(0);
        for (int r = 0; r < 9; r++) {
            nine.relation(0, true, 0, ~511);
        }
        Checks.typeAll(nine, "T-T-c0");
        CHECKS.due("nine, and bits 9 to 31", 9, () -> nine.accept());
        for (int s = 0; s <= 40; s++) {
            int relation = s;
            CHECKS.due("userset of " + s + " with nine", ARGUMENT, () -> nine.change(true, 0, 0, 2, 0, relation));
        }
    }

    private static void bitsOfLaterRelations() {
        RelationStore x = new RelationStore(0);
        x.relation(0, true, 0, 2);
        x.relation(1, true, 0, 0);
        x.accept();
        CHECKS.due("a relation that came later", 1, () -> x.change(true, 0, 0, 2, 7, 1));
        RelationStore y = new RelationStore(0);
        y.relation(0, true, 0, 2);
        Checks.relation(y, 0, true, 0, 0, "T-c0");
        CHECKS.due("its usersets are needed", IllegalStateException.class, () -> y.accept());
        RelationStore z = new RelationStore(0);
        z.relation(0, true, 0, 4);
        Checks.relation(z, 0, true, 0, 0, "T-c0");
        CHECKS.due("one bit higher is not", 2, () -> z.accept());
    }

    private static void sorts() {
        CHECKS.sentence("a SUBJECT, which has a sort: 0 a user, 1 an object, 2 a userset");
        for (int sort : AROUND) {
            RelationStore x = Stores.open(0);
            CHECKS.due("sort " + sort, dueIf(isIn(0, sort, 2), 1), () -> x.change(true, 0, 0, sort, 0, 0));
        }
        CHECKS.sentence("The subject must be listed.");
        RelationStore x = new RelationStore(0);
        x.relation(0, true, 0, 0);
        x.relation(0, false, 1, 0);
        x.relation(0, false, 0, 1);
        x.accept();
        for (int relation = 0; relation < 3; relation++) {
            for (int sort = 0; sort < 3; sort++) {
                int r = relation;
                int of = sort;
                CHECKS.due("sort " + sort + " for what lists " + r, dueIf(r == of, 1),
                        () -> x.change(true, 0, r, of, 0, 0));
                x.crash();
            }
        }
    }

    private static void relationWithoutMeaning() {
        CHECKS.sentence("for sorts 0 and 1 relation s has no meaning");
        for (int s : AROUND) {
            RelationStore x = Stores.open(7);
            CHECKS.due("a user and " + s, 1, () -> x.change(true, 0, 0, 0, 7, s));
            CHECKS.due("an object and " + s, 2, () -> x.change(true, 0, 0, 1, 11, s));
            x.change(true, 0, 0, 0, 7, 0);
            x.change(true, 0, 0, 1, 11, 0);
            x.commit(-1);
            CHECKS.due("the same tuples, whatever s is", 2, () -> x.tuples(1));
            CHECKS.due("s of the user", 0, () -> x.watched(0, 0, 5));
            CHECKS.due("s of the object", 0, () -> x.watched(0, 1, 5));
            x.change(false, 0, 0, 0, 7, -s);
            x.change(false, 0, 0, 1, 11, -s);
            x.commit(-1);
            CHECKS.due("they go, whatever s is", 0, () -> x.tuples(2));
        }
    }
}
