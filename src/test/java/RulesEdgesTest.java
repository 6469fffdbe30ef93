/** The edges of texts and rules, and of who is a member by them. */
public final class RulesEdgesTest {
    private static final Checks CHECKS = new Checks();
    private static final Class<?> ARGUMENT = IllegalArgumentException.class;
    private static final Class<?> STATE = IllegalStateException.class;

    public static void main(String[] args) {
        lengths();
        fullTextsCount();
        partsAndOperators();
        endsOfParts();
        depths();
        digitsAround();
        digitsOfNoRelation();
        namespacesOfNames();
        otherCharacters();
        emptyText();
        emptySides();
        fullSides();
        usersAndUsersets();
        objectsOfTheNamespace();
        leastSolution();
        workedOutBefore();
        stepsOfRings();
        kindsOfNeeds();
        secondSides();
        CHECKS.end();
    }

    private static boolean isSound(int namespace, String text) {
        RelationStore x = new RelationStore(0);
        x.relation(0, true, 0, 0);
        x.relation(1, true, 0, 0);
        Checks.relation(x, namespace, true, 0, 0, text);
        return x.sound(2);
    }

    private static void lengths() {
        CHECKS.sentence("A relation has a TEXT of at most 24 characters");
        for (int relations = 1; relations <= 9; relations += 4) {
            RelationStore x = Stores.told(relations);
            for (int i = 1; i <= 26; i++) {
                boolean fits = i <= 24;
                CHECKS.due("character " + i + " of relation " + (relations - 1), fits, () -> x.type('T'));
            }
        }
        String of23 = "T|T|T|T|T|T|T|T|T|T|T|T";
        CHECKS.due("23 characters", true, () -> isSound(0, of23));
        String of24 = "T|T|T|T|T|T|T|T|T|T|T|c2";
        CHECKS.due("24 characters", true, () -> isSound(0, of24));
        CHECKS.due("24 characters and one too many", true, () -> isSound(0, of24 + "x"));
        CHECKS.due("24 characters that want one more", false, () -> isSound(0, of23 + "|"));
        CHECKS.due("24 characters that want the 25th", false, () -> isSound(0, of23 + "|T"));
    }

    private static void fullTextsCount() {
        String[] texts = {"T-T-T-T-T-T-T-T-T-T-T|T", "T-T-T-T-T-T-T-T-T-T-T|c1", "c1-T-T-T-T-T-T-T-T-T-T|"};
        int[] due = {0b0101, 0b0011, -1};
        for (int i = 0; i < texts.length; i++) {
            RelationStore x = new RelationStore(0);
            Checks.relation(x, 0, true, 0, 0, texts[i]);
            x.relation(0, true, 0, 0);
            int want = due[i];
            CHECKS.due("accept with " + texts[i], want < 0 ? ARGUMENT : (Object) 2, () -> x.accept());
            if (want >= 0) {
                x.change(true, 0, 0, 0, 0, 0);
                x.change(true, 0, 0, 0, 2, 0);
                x.change(true, 0, 1, 0, 0, 0);
                x.change(true, 0, 1, 0, 1, 0);
                x.commit(-1);
                CHECKS.due("members by " + texts[i], want, () -> x.expand(1, 0, 0));
            }
        }
    }

    private static void partsAndOperators() {
        CHECKS.sentence("an EXPRESSION is a part, or several ones with one of & | - between each two");
        for (char operator : new char[] {'&', '|', '-'}) {
            StringBuilder text = new StringBuilder("T");
            for (int parts = 1; parts <= 12; parts++) {
                String right = text.toString();
                CHECKS.due(right, true, () -> isSound(0, right));
                CHECKS.due(right + " without its last part", parts > 1 ? false : (Object) true,
                        () -> isSound(0, right.substring(0, right.length() - 1)));
                CHECKS.due("an operator before " + right, false, () -> isSound(0, operator + right));
                if (parts < 12) {
                    CHECKS.due("no operator behind " + right, false, () -> isSound(0, right + "T"));
                    CHECKS.due("two operators behind " + right, false,
                            () -> isSound(0, right + operator + operator + "T"));
                }
                text.append(operator).append('T');
            }
            CHECKS.due("an operator alone", false, () -> isSound(0, String.valueOf(operator)));
            CHECKS.due("an operator in brackets", false, () -> isSound(0, "(" + operator + ")"));
            CHECKS.due("brackets side by side", true, () -> isSound(0, "(T)" + operator + "(T)"));
            CHECKS.due("an operator before (", false, () -> isSound(0, "T" + operator + operator + "(T)"));
            CHECKS.due("an operator before )", false, () -> isSound(0, "(T" + operator + ")"));
            CHECKS.due("an operator behind (", false, () -> isSound(0, "(" + operator + "T)"));
        }
    }

    private static void endsOfParts() {
        CHECKS.sentence("a PART is T, or c and a digit x, or f and two digits t and x, or an expression in ( and )");
        String[] right = {"T", "c0", "f00", "f01", "f20", "f21", "f22", "(T)", "(c0)", "(f21)"};
        for (String part : right) {
            CHECKS.due(part, true, () -> isSound(0, part));
            CHECKS.due(part + " and a digit more", false, () -> isSound(0, part + "0"));
            for (int end = 1; end < part.length(); end++) {
                String cut = part.substring(0, end);
                CHECKS.due(cut, false, () -> isSound(0, cut));
                CHECKS.due(cut + " and an operator", false, () -> isSound(0, cut + "|T"));
                CHECKS.due(cut + " in brackets", false, () -> isSound(0, "(" + cut + ")"));
            }
        }
        String[] wrong = {"()", "(", ")", ")(", "T)", "((T)", "(T))", "(T)(T)", "T(T)", "(T)T", "c(0)", "f(00)", "f0(0)",
            "0", "00", "T0", "tT", "c00", "f000"};
        for (String part : wrong) {
            CHECKS.due(part, false, () -> isSound(0, part));
        }
    }

    private static String deep(int depth, String inside) {
        return "(".repeat(depth) + inside + ")".repeat(depth);
    }

    private static void depths() {
        CHECKS.sentence("an expression in ( and ), at most 5 deep");
        for (int depth = 0; depth <= 11; depth++) {
            boolean right = depth <= 5;
            String text = deep(depth, "T");
            CHECKS.due(text, right, () -> isSound(0, text));
            String same = deep(depth, "c0");
            CHECKS.due(same, right, () -> isSound(0, same));
            if (depth < 11) {
                CHECKS.due("T-" + text, right, () -> isSound(0, "T-" + text));
                CHECKS.due(text + "-T", right, () -> isSound(0, text + "-T"));
            }
        }
        CHECKS.due("5 deep twice", true, () -> isSound(0, deep(5, "T") + "|" + deep(5, "T")));
        CHECKS.due("5 deep and 6 deep", false, () -> isSound(0, "((((((T))))))&(((T)))"));
        CHECKS.due("1 deep and 6 deep", false, () -> isSound(0, "(T)&" + deep(6, "T")));
        CHECKS.due("many, each 1 deep", true, () -> isSound(0, "(T)|(T)|(T)|(T)|(T)|(T)"));
        CHECKS.due("5 deep, side by side", true, () -> isSound(0, "((((" + "(T)|(T)|(T)" + "))))"));
        CHECKS.due("6 deep, side by side", false, () -> isSound(0, "((((" + "(T)|((T))" + "))))"));
        CHECKS.due("12 that are never closed", false, () -> isSound(0, "((((((((((((T"));
        CHECKS.due("24 that are never closed", false, () -> isSound(0, "(".repeat(24)));
        CHECKS.due("5 that are never closed", false, () -> isSound(0, "(((((T"));
        CHECKS.due("24 that close nothing", false, () -> isSound(0, ")".repeat(24)));
    }

    private static void digitsAround() {
        CHECKS.sentence("A digit that names no relation is wrong");
        for (int relations = 1; relations <= 9; relations++) {
            for (char digit = '/'; digit <= ':'; digit++) {
                boolean right = digit >= '0' && digit - '0' < relations;
                int last = relations - 1;
                for (String text : new String[] {"c" + digit, "f" + digit + "0", "f0" + digit, "T|(c" + digit + ")"}) {
                    RelationStore x = Stores.told(relations);
                    Checks.typeAll(x, text);
                    CHECKS.due(text + " with " + relations, right, () -> x.sound(last));
                    CHECKS.due("accept " + text + " with " + relations, right ? relations : (Object) ARGUMENT,
                            () -> x.accept());
                }
            }
        }
    }

    private static void digitsOfNoRelation() {
        RelationStore x = new RelationStore(0);
        Checks.relation(x, 0, true, 0, 0, "c1|f12");
        CHECKS.due("1 and 2 are not there", false, () -> x.sound(0));
        x.relation(0, true, 0, 0);
        CHECKS.due("2 is not there", false, () -> x.sound(0));
        CHECKS.due("accept when 2 is not there", ARGUMENT, () -> x.accept());
        x.relation(2, true, 0, 0);
        CHECKS.due("both are there now", true, () -> x.sound(0));
        CHECKS.due("accept when both are there", 3, () -> x.accept());
    }

    private static void namespacesOfNames() {
        CHECKS.sentence("c names a relation of the same namespace; f names a relation t of the same namespace"
                + " and any one x");
        for (int namespace = 0; namespace < 3; namespace++) {
            int own = namespace;
            for (int named = 0; named < 2; named++) {
                boolean same = named == namespace;
                int x = named;
                CHECKS.due("c" + x + " in " + own, same, () -> isSound(own, "c" + x));
                CHECKS.due("f" + x + "0 in " + own, same, () -> isSound(own, "f" + x + "0"));
                CHECKS.due("f" + x + "1 in " + own, same, () -> isSound(own, "f" + x + "1"));
                CHECKS.due("f2" + x + " in " + own, true, () -> isSound(own, "f2" + x));
            }
        }
    }

    private static void otherCharacters() {
        CHECKS.sentence("and so is anything else.)");
        for (int code = 0; code < 400; code++) {
            char c = (char) code;
            CHECKS.due("character " + code + " alone", c == 'T', () -> isSound(0, String.valueOf(c)));
            CHECKS.due("character " + code + " between", "&|-".indexOf(c) >= 0, () -> isSound(0, "T" + c + "T"));
            CHECKS.due("character " + code + " behind c", c == '0' || c == '2', () -> isSound(0, "c" + c));
            CHECKS.due("character " + code + " behind T", false, () -> isSound(0, "T" + c));
        }
        char[] high = {'\u0660', '\uff10', '\uff34', '\u0174', '\u0154', '\u8000', '\uffff'};
        for (char c : high) {
            CHECKS.due("character " + (int) c, false, () -> isSound(0, String.valueOf(c)));
            CHECKS.due("character " + (int) c + " behind c", false, () -> isSound(0, "c" + c));
        }
    }

    private static void emptyText() {
        CHECKS.sentence("An empty text is T.");
        RelationStore x = new RelationStore(0);
        x.relation(0, true, 0, 3);
        Checks.relation(x, 0, true, 0, 3, "T");
        CHECKS.due("it is a rule", true, () -> x.sound(0));
        CHECKS.due("it is accepted", 2, () -> x.accept());
        for (int relation = 0; relation < 2; relation++) {
            x.change(true, 0, relation, 0, 5, 0);
            x.change(true, 1, relation, 2, 0, 0);
        }
        x.commit(-1);
        for (int object = 0; object < 2; object++) {
            int o = object;
            CHECKS.due("empty text, object " + o, 32, () -> x.expand(1, o, 0));
            CHECKS.due("T, object " + o, 32, () -> x.expand(1, o, 1));
        }
        RelationStore y = new RelationStore(0);
        y.relation(0, true, 0, 2);
        Checks.relation(y, 0, true, 0, 0, "T-c0");
        CHECKS.due("it needs its usersets as T does", STATE, () -> y.accept());
        RelationStore z = new RelationStore(0);
        z.relation(0, true, 0, 0);
        Checks.relation(z, 0, true, 0, 0, "()");
        CHECKS.due("empty brackets are no rule", false, () -> z.sound(1));
        emptyNoMore();
    }

    /** That an empty text was asked for must not be seen when it is one no more. */
    private static void emptyNoMore() {
        RelationStore x = new RelationStore(0);
        Checks.relation(x, 0, true, 0, 0, "T-c1");
        x.relation(0, true, 0, 1);
        CHECKS.due("empty yet", true, () -> x.sound(1));
        CHECKS.due("T needs the usersets", STATE, () -> x.accept());
        Checks.typeAll(x, "c1");
        CHECKS.due("no T, so no usersets are needed", 2, () -> x.accept());
        RelationStore z = new RelationStore(0);
        z.relation(0, true, 0, 1);
        z.relation(0, true, 0, 1);
        CHECKS.due("empty yet, and the latest", true, () -> z.sound(1));
        Checks.typeAll(z, "c0");
        CHECKS.due("accept", 2, () -> z.accept());
        z.change(true, 0, 1, 0, 5, 0);
        z.change(true, 0, 0, 0, 6, 0);
        z.commit(-1);
        CHECKS.due("members by the text alone", 64, () -> z.expand(1, 0, 1));
    }

    /** Relations 0 and 1 of object 0 have the users of the masks; the rule is that of relation 2. */
    private static int worked(String rule, int zero, int one) {
        RelationStore x = new RelationStore(0);
        x.relation(0, true, 7, 0);
        x.relation(0, true, 7, 0);
        Checks.relation(x, 0, true, 7, 0, rule);
        x.accept();
        int[] masks = {zero, one};
        for (int user = 0; user < 8; user++) {
            for (int relation = 0; relation < 2; relation++) {
                x.change((masks[relation] >> user & 1) != 0, 0, relation, 0, user, 0);
            }
            x.commit(-1);
        }
        return x.expand(x.latest(), 0, 2);
    }

    private static void emptySides() {
        CHECKS.sentence("& who is in both, | who is in one of them, - who is in the first and not in the second");
        String[] rules = {"c0&c1", "c0|c1", "c0-c1", "c1-c0", "T&c0", "T|c0", "T-c0", "c0-T", "f00", "c0-f00"};
        int[][] masks = {{0, 0}, {0b10011001, 0}, {0, 0b10011001}, {0b10011001, 0b10011001}};
        int m = 0b10011001;
        int[][] due = {{0, 0, 0, m}, {0, m, m, m}, {0, m, 0, 0}, {0, 0, m, 0}, {0, 0, 0, 0}, {0, m, 0, m}, {0, 0, 0, 0},
            {0, m, 0, m}, {0, 0, 0, 0}, {0, m, 0, m}};
        for (int i = 0; i < rules.length; i++) {
            for (int j = 0; j < masks.length; j++) {
                String rule = rules[i];
                int[] mask = masks[j];
                CHECKS.due(rule + " of " + mask[0] + " and " + mask[1], due[i][j], () -> worked(rule, mask[0], mask[1]));
            }
        }
    }

    private static void fullSides() {
        CHECKS.due("all and all", 255, () -> worked("c0&c1", 255, 255));
        CHECKS.due("all or none", 255, () -> worked("c0|c1", 255, 0));
        CHECKS.due("all without the lowest", 254, () -> worked("c0-c1", 255, 1));
        CHECKS.due("all without the highest", 127, () -> worked("c0-c1", 255, 128));
        CHECKS.due("all without all", 0, () -> worked("c0-c1", 255, 255));
        CHECKS.due("the lowest or the highest", 129, () -> worked("c0|c1", 1, 128));
        CHECKS.due("nobody is in T - c0", 0, () -> worked("T-c0", 0, 255));
    }

    private static void objectsOfTheNamespace() {
        CHECKS.sentence("f t x: the members of relation x of all objects of x's namespace that are subjects of tuples"
                + " of o and t");
        for (int namespace = 0; namespace < 3; namespace++) {
            for (int object = 0; object < 12; object++) {
                RelationStore x = throughObjects(namespace);
                x.change(true, 3, 1, 1, object, 0);
                x.commit(-1);
                boolean right = object / 4 == namespace;
                String name = "object " + object + " and a relation of " + namespace;
                CHECKS.due(name, right ? 1 << object % 4 : 0, () -> x.expand(2, 3, 2));
                CHECKS.due(name + ", elsewhere", 0, () -> x.expand(2, 0, 2));
            }
            RelationStore x = throughObjects(namespace);
            CHECKS.due("no object and a relation of " + namespace, 0, () -> x.expand(1, 3, 2));
            for (int object = 0; object < 12; object++) {
                x.change(true, 3, 1, 1, object, 0);
                int version = object + 2;
                int right = Math.max(0, Math.min(4, object + 1 - 4 * namespace));
                x.commit(-1);
                CHECKS.due("objects 0 .. " + object + " and a relation of " + namespace, (1 << right) - 1,
                        () -> x.expand(version, 3, 2));
            }
        }
    }

    /** Relation 0 of the i-th object of a namespace has user i; 2 goes through the objects of 1 to 0. */
    private static RelationStore throughObjects(int namespace) {
        RelationStore x = new RelationStore(0);
        x.relation(namespace, true, 0, 0);
        x.relation(0, false, 7, 0);
        Checks.relation(x, 0, true, 0, 0, "f10");
        x.accept();
        for (int i = 0; i < 4; i++) {
            x.change(true, 4 * namespace + i, 0, 0, i, 0);
        }
        x.commit(-1);
        return x;
    }

    private static void usersAndUsersets() {
        CHECKS.sentence("T: those that are subjects of tuples of o and r, and the members of the usersets that are");
        RelationStore x = new RelationStore(7);
        x.relation(2, true, 7, 3);
        x.relation(0, true, 7, 3);
        x.accept();
        for (int i = 0; i < 4; i++) {
            x.change(true, 8 + i, 0, 0, i, 0);
        }
        x.change(true, 1, 1, 0, 4, 0);
        x.commit(-1);
        CHECKS.due("no tuples", 0, () -> x.expand(1, 0, 1));
        for (int i = 0; i < 4; i++) {
            int version = i + 2;
            x.change(true, 0, 1, 2, 8 + i, 0);
            x.commit(-1);
            CHECKS.due("usersets up to " + (8 + i), (2 << i) - 1, () -> x.expand(version, 0, 1));
        }
        x.change(true, 0, 1, 2, 1, 1);
        x.change(true, 0, 1, 0, 7, 0);
        x.change(true, 0, 1, 1, 2, 0);
        x.change(true, 2, 1, 0, 6, 0);
        x.commit(-1);
        CHECKS.due("usersets of two relations, and a user", 0b10011111, () -> x.expand(6, 0, 1));
        objectsAreNoMembers();
    }

    private static void objectsAreNoMembers() {
        for (int object = 0; object < 12; object++) {
            RelationStore x = Stores.open(0);
            x.change(true, 5, 1, 1, object, 0);
            x.change(true, object, object / 4, 0, 7, 0);
            x.change(false, 5, 1, 0, 7, 0);
            x.commit(-1);
            CHECKS.due("object " + object + " is no member", 0, () -> x.expand(1, 5, 1));
            CHECKS.due("object " + object + " is a tuple", object == 5 ? 1 : 2, () -> x.tuples(1));
        }
    }

    private static void workedOutBefore() {
        CHECKS.sentence("then what is needed barred is worked out before");
        for (int levels = 1; levels <= 9; levels++) {
            for (boolean up : new boolean[] {true, false}) {
                RelationStore x = new RelationStore(0);
                for (int r = 0; r < levels; r++) {
                    int next = up ? r + 1 : r - 1;
                    boolean last = next < 0 || next >= levels;
                    Checks.relation(x, 2, true, 0, 0, last ? "T" : "T-c" + next);
                }
                x.accept();
                for (int r = 0; r < levels; r++) {
                    x.change(true, 10, r, 0, 3, 0);
                    x.commit(-1);
                }
                for (int r = 0; r < levels; r++) {
                    int relation = r;
                    int below = up ? levels - 1 - r : r;
                    CHECKS.due("relation " + r + " of " + levels + " levels, up is " + up, below % 2 == 0 ? 8 : 0,
                            () -> x.expand(x.latest(), 10, relation));
                }
            }
        }
        barredThroughUsersets();
    }

    /** What is barred grows by usersets, and what was let in too early would stay in the ring of 1 and 2. */
    private static void barredThroughUsersets() {
        RelationStore x = new RelationStore(0);
        Checks.relation(x, 0, true, 0, 0, "T-c3");
        Checks.relation(x, 0, true, 0, 0, "c0|c2");
        Checks.relation(x, 0, true, 0, 0, "c1");
        Checks.relation(x, 0, true, 0, 24, "T");
        x.relation(0, true, 0, 0);
        x.accept();
        x.change(true, 0, 0, 0, 5, 0);
        x.change(true, 0, 0, 0, 6, 0);
        x.change(true, 0, 3, 2, 1, 3);
        x.change(true, 1, 3, 2, 2, 4);
        x.change(true, 2, 4, 0, 5, 0);
        x.commit(-1);
        for (int r = 0; r < 3; r++) {
            int relation = r;
            CHECKS.due("relation " + r + " without what is barred", 64, () -> x.expand(1, 0, relation));
        }
        CHECKS.due("what is barred", 32, () -> x.expand(1, 0, 3));
    }

    private static void leastSolution() {
        CHECKS.sentence("The least solution: no user is a member but by finitely many of these steps.");
        String[][] rings = {{"c0", "T"}, {"c1", "c0"}, {"f00", "T"}, {"T&c0", "T"}, {"c1&c0", "T|c0"}, {"c0|c1", "c0&T"}};
        for (String[] ring : rings) {
            RelationStore x = new RelationStore(0);
            Checks.relation(x, 0, true, 7, 3, ring[0]);
            Checks.relation(x, 0, true, 7, 3, ring[1]);
            x.accept();
            x.change(true, 2, 0, 0, 4, 0);
            x.change(true, 2, 0, 1, 2, 0);
            x.change(true, 2, 0, 2, 2, 0);
            x.change(true, 2, 1, 0, 4, 0);
            x.commit(-1);
            CHECKS.due(ring[0] + " with " + ring[1], 0, () -> x.expand(1, 2, 0));
        }
        RelationStore x = new RelationStore(0);
        x.relation(0, true, 7, 3);
        Checks.relation(x, 0, true, 7, 3, "c1|T");
        x.accept();
        x.change(true, 0, 0, 2, 0, 0);
        x.change(true, 1, 1, 0, 6, 0);
        x.commit(-1);
        CHECKS.due("a userset of itself", 0, () -> x.expand(1, 0, 0));
        CHECKS.due("one step is enough", 64, () -> x.expand(1, 1, 1));
    }

    /** Relation 0 bars 1, each needs the next one, and the last of so many needs 0 or nothing. */
    private static Object acceptRing(int relations, boolean closed) {
        RelationStore x = new RelationStore(0);
        for (int r = 0; r < relations; r++) {
            boolean last = r == relations - 1;
            String need = last && !closed ? "T" : "c" + (last ? 0 : r + 1);
            Checks.relation(x, 0, true, 0, 0, r == 0 ? "T-" + need : need);
        }
        return x.accept();
    }

    private static void stepsOfRings() {
        CHECKS.sentence("A configuration is accepted only if no relation that is needed barred by r needs r itself,"
                + " in one or more steps of any kind");
        for (int relations = 1; relations <= 9; relations++) {
            int length = relations;
            CHECKS.due("a ring of " + length, STATE, () -> acceptRing(length, true));
            CHECKS.due("no ring of " + length, length, () -> acceptRing(length, false));
        }
        CHECKS.due("barred by itself", STATE, () -> acceptTwo("T-c0", 0, "T", 0));
        CHECKS.due("a plain ring of one", 2, () -> acceptTwo("T|c0", 0, "T", 0));
        CHECKS.due("a plain ring of two", 2, () -> acceptTwo("c1", 0, "c0", 0));
        CHECKS.due("a plain ring that bars another", 3, () -> acceptThree("c1-c2", "c0", "T"));
        CHECKS.due("one that a plain ring bars, and that needs it", STATE, () -> acceptThree("c1-c2", "c0", "c1"));
    }

    private static Object acceptThree(String... texts) {
        RelationStore x = new RelationStore(0);
        for (String text : texts) {
            Checks.relation(x, 0, true, 0, 0, text);
        }
        return x.accept();
    }

    private static Object acceptTwo(String first, int usersets, String second, int others) {
        RelationStore x = new RelationStore(0);
        Checks.relation(x, 0, true, 0, usersets, first);
        Checks.relation(x, 0, true, 0, others, second);
        return x.accept();
    }

    private static void kindsOfNeeds() {
        CHECKS.sentence("relation r NEEDS x for c x; t and x for f t x; and for T the relations whose usersets are"
                + " listed for r");
        CHECKS.due("back by c", STATE, () -> acceptTwo("T-c1", 0, "c0", 0));
        CHECKS.due("back by t", STATE, () -> acceptTwo("T-c1", 0, "f01", 0));
        CHECKS.due("back by x", STATE, () -> acceptTwo("T-c1", 0, "f10", 0));
        CHECKS.due("back by T", STATE, () -> acceptTwo("T-c1", 0, "T", 1));
        CHECKS.due("back by an empty text", STATE, () -> acceptTwo("T-c1", 0, "", 1));
        CHECKS.due("listed, but there is no T", 2, () -> acceptTwo("T-c1", 0, "c1", 1));
        CHECKS.due("listed is itself alone", 2, () -> acceptTwo("T-c1", 0, "T", 2));
        CHECKS.due("f of itself alone", 2, () -> acceptTwo("T-c1", 0, "f11", 0));
        CHECKS.sentence("it needs these BARRED if the part stands in the second side of some -");
        CHECKS.due("c is barred", STATE, () -> acceptTwo("T-c1", 0, "c0", 0));
        CHECKS.due("t is barred", STATE, () -> acceptThree("T-f12", "c0", "T"));
        CHECKS.due("x is barred", STATE, () -> acceptThree("T-f12", "T", "c0"));
        CHECKS.due("t and x are barred, and need nothing", 3, () -> acceptThree("T-f12", "T", "T"));
        CHECKS.due("t and x are not barred", 3, () -> acceptThree("f12-T", "c0", "c0"));
        CHECKS.due("T is barred", STATE, () -> acceptTwo("c1-T", 2, "c0", 0));
        CHECKS.due("T is barred, and lists nothing", 2, () -> acceptTwo("c1-T", 0, "c0", 0));
        CHECKS.due("T is barred, and lists what needs nothing", 2, () -> acceptTwo("c1-T", 2, "T", 0));
    }

    private static void secondSides() {
        CHECKS.sentence("From left to right: in a - b - c both b and c are such second sides.");
        String[] texts = {"c1-T-T", "T-c1-T", "T-T-c1", "c1-T-T-T", "T-T-T-c1", "T-c1-T-T", "c1|T-T", "T|c1-T", "T|T-c1",
            "T-T|c1", "T-T&c1", "T-c1|T", "T-c1&T", "(c1-T)-T", "(T-c1)-T", "T-(c1-T)", "T-(T-c1)", "T-(T|c1)", "T-(T)|c1",
            "(T-T)|c1", "T-((T)&(c1))", "(T|c1)-T", "(T-(T))&(c1)", "T-(T-(T-c1))", "(((c1)-T)-T)-T"};
        boolean[] barred = {false, true, true, false, true, true, false, false, true,
            false, false, true, true, false, true, true, true, true, false,
            false, true, false, false, true, false};
        for (int i = 0; i < texts.length; i++) {
            String text = texts[i];
            CHECKS.due(text, barred[i] ? STATE : (Object) 2, () -> acceptTwo(text, 0, "c0", 0));
        }
    }
}
