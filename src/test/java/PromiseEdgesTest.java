/** The edges that the promises 1 to 17 name themselves, and several exceptions that apply at once. */
public final class PromiseEdgesTest {
    private static final Checks CHECKS = new Checks();
    private static final Class<?> UNSUPPORTED = UnsupportedOperationException.class;
    private static final Class<?> ARGUMENT = IllegalArgumentException.class;
    private static final Class<?> STATE = IllegalStateException.class;
    private static final int LOWEST = Integer.MIN_VALUE;
    private static final int HIGHEST = Integer.MAX_VALUE;

    public static void main(String[] args) {
        lowestThreeBits();
        newObject();
        relationRefused();
        relationNumbers();
        typeRefused();
        typeGoesToTheLatest();
        typeOfAnyCharacter();
        soundOfNoRelation();
        soundAsTheRelationsAreNow();
        acceptRefused();
        acceptCounts();
        changeBeforeAccept();
        latestAndRecords();
        tuplesFromNoneToAll();
        questionsBeforeAccept();
        bitsOfExpand();
        bitsOfLookup();
        stepsOfNested();
        nestedByUsersetsAlone();
        countsOfWatch();
        edgesOfWatched();
        severalOfAccept();
        severalOfChange();
        severalOfQuestions();
        CHECKS.end();
    }

    private static void lowestThreeBits() {
        CHECKS.sentence("1 + the lowest three bits of kept versions are KEPT (1 .. 8)");
        int[] arguments = {LOWEST, LOWEST + 1, LOWEST + 7, LOWEST + 8, -17, -16, -9, -8, -7, -2, -1, 0, 1, 2, 3, 4, 5, 6, 7,
            8, 9, 15, 16, 17, 255, 256, 1 << 30, HIGHEST - 8, HIGHEST - 7, HIGHEST - 1, HIGHEST};
        for (int argument : arguments) {
            int kept = 1 + Math.floorMod(argument, 8);
            RelationStore x = Stores.open(argument);
            Stores.commits(x, 9);
            CHECKS.due("kept " + argument + ", the oldest", Math.min(8, 10 - kept), () -> x.tuples(10 - kept));
            CHECKS.due("kept " + argument + ", one older", STATE, () -> x.tuples(9 - kept));
        }
    }

    private static void newObject() {
        CHECKS.sentence("No relations; nothing accepted; version 0.");
        RelationStore x = new RelationStore(0);
        CHECKS.due("latest", 0, () -> x.latest());
        CHECKS.due("records", 0, () -> x.records());
        CHECKS.due("sound", false, () -> x.sound(0));
        CHECKS.due("type", false, () -> x.type('T'));
        CHECKS.due("accept", UNSUPPORTED, () -> x.accept());
        CHECKS.due("change", UNSUPPORTED, () -> x.change(true, 0, 0, 0, 0, 0));
        CHECKS.due("commit", STATE, () -> x.commit(-1));
        CHECKS.due("tuples of 0", 0, () -> x.tuples(0));
        CHECKS.due("tuples of 1", ARGUMENT, () -> x.tuples(1));
        CHECKS.due("tuples of -1", ARGUMENT, () -> x.tuples(-1));
        CHECKS.due("watch of 0", 0, () -> x.watch(0));
        CHECKS.due("watch of 1", ARGUMENT, () -> x.watch(1));
        CHECKS.due("watched of 0", -1, () -> x.watched(0, 0, 0));
        CHECKS.due("watched of 1", ARGUMENT, () -> x.watched(1, 0, 0));
        CHECKS.due("the first relation", 0, () -> x.relation(0, true, 0, 0));
    }

    private static void relationRefused() {
        CHECKS.sentence("-1, refused, if the configuration is accepted, there are 9, or there is no such namespace.");
        int[] namespaces = {LOWEST, -4, -1, 0, 1, 2, 3, 4, HIGHEST};
        for (int namespace : namespaces) {
            boolean right = namespace >= 0 && namespace <= 2;
            RelationStore x = new RelationStore(0);
            CHECKS.due("namespace " + namespace + " of the first", right ? 0 : -1,
                    () -> x.relation(namespace, true, 0, 0));
            RelationStore y = Stores.told(8);
            CHECKS.due("namespace " + namespace + " of the ninth", right ? 8 : -1,
                    () -> y.relation(namespace, false, -1, -1));
            RelationStore z = Stores.told(9);
            CHECKS.due("namespace " + namespace + " of a tenth", -1, () -> z.relation(namespace, true, 0, 0));
            RelationStore accepted = Stores.open(0);
            CHECKS.due("namespace " + namespace + ", accepted", -1, () -> accepted.relation(namespace, true, 0, 0));
        }
    }

    private static void relationNumbers() {
        CHECKS.sentence("A new relation of a namespace, with an empty text and what is listed: its number.");
        RelationStore x = new RelationStore(0);
        for (int number = 0; number < 9; number++) {
            int due = number;
            CHECKS.due("a refused one takes no number", -1, () -> x.relation(3, true, 0, 0));
            CHECKS.due("number " + due, due, () -> x.relation(due % 3, true, 0, 0));
            CHECKS.due("text of " + due, true, () -> x.sound(due));
            x.type('x');
            CHECKS.due("text of " + due + " with a character", false, () -> x.sound(due));
        }
    }

    private static void typeRefused() {
        CHECKS.sentence("false, refused, if there is none, the configuration is accepted, or 24 are there.");
        RelationStore none = new RelationStore(0);
        CHECKS.due("there is none", false, () -> none.type('T'));
        none.relation(-1, true, 0, 0);
        CHECKS.due("there is none but a refused one", false, () -> none.type('T'));
        none.relation(0, true, 0, 0);
        CHECKS.due("there is one", true, () -> none.type('T'));
        CHECKS.due("accept", 1, () -> none.accept());
        CHECKS.due("it is accepted", false, () -> none.type('T'));
        RelationStore refused = new RelationStore(0);
        Checks.relation(refused, 0, true, 0, 0, "T-c");
        CHECKS.due("accept of no rule", ARGUMENT, () -> refused.accept());
        CHECKS.due("nothing is accepted", true, () -> refused.type('0'));
        CHECKS.due("accept of a ring", STATE, () -> refused.accept());
        CHECKS.due("nothing is accepted still", true, () -> refused.type('|'));
        RelationStore full = new RelationStore(0);
        Checks.relation(full, 0, true, 0, 0, "T|T|T|T|T|T|T|T|T|T|T|");
        CHECKS.due("character 23", true, () -> full.type('c'));
        CHECKS.due("character 24", true, () -> full.type('0'));
        CHECKS.due("character 25", false, () -> full.type('0'));
        CHECKS.due("the text is as it was", true, () -> full.sound(0));
    }

    private static void typeGoesToTheLatest() {
        CHECKS.sentence("Appends a character to the text of the latest relation");
        RelationStore x = new RelationStore(0);
        Checks.relation(x, 0, true, 0, 0, "x".repeat(24));
        CHECKS.due("the first is full", false, () -> x.type('T'));
        x.relation(0, true, 0, 0);
        for (int i = 1; i <= 24; i++) {
            CHECKS.due("character " + i + " of the second", true, () -> x.type('x'));
        }
        CHECKS.due("the second is full", false, () -> x.type('T'));
        for (int r = 2; r < 9; r++) {
            x.relation(0, true, 0, 0);
        }
        x.relation(0, true, 0, 0);
        CHECKS.due("the ninth, behind a refused tenth", true, () -> x.type('('));
        CHECKS.due("the ninth has it", false, () -> x.sound(8));
        CHECKS.due("the eighth has not", true, () -> x.sound(7));
        for (int c = 0; c < 23; c++) {
            x.type('x');
        }
        CHECKS.due("the ninth is full", false, () -> x.type('T'));
    }

    /** "and so is anything else": a character of no rule is appended too, and is then part of the text. */
    private static void typeOfAnyCharacter() {
        CHECKS.sentence("Appends a character to the text of the latest relation");
        char[] odd = {0, ' ', '\n', 'x', 127, 128, 255, 256, '\u0154', '\ud800', '\uffff'};
        for (char c : odd) {
            RelationStore x = new RelationStore(0);
            x.relation(0, true, 0, 0);
            CHECKS.due("character " + (int) c, true, () -> x.type(c));
            CHECKS.due("the text with it", false, () -> x.sound(0));
            for (int i = 2; i <= 24; i++) {
                CHECKS.due("character " + (int) c + " as number " + i, true, () -> x.type(c));
            }
            CHECKS.due("character " + (int) c + " as number 25", false, () -> x.type(c));
            CHECKS.due("accept", ARGUMENT, () -> x.accept());
            CHECKS.due("the texts of others are their own", 1, () -> x.relation(0, true, 0, 0));
            CHECKS.due("the empty one", true, () -> x.sound(1));
        }
    }

    private static void soundOfNoRelation() {
        CHECKS.sentence("false also if there is no such relation");
        for (int there = 0; there <= 9; there++) {
            RelationStore x = Stores.told(there);
            for (int relation : new int[] {LOWEST, -9, -1, 0, there - 1, there, there + 1, 8, 9, 10, HIGHEST}) {
                boolean right = relation >= 0 && relation < there;
                CHECKS.due("sound of " + relation + " with " + there, right, () -> x.sound(relation));
            }
        }
    }

    private static void soundAsTheRelationsAreNow() {
        CHECKS.sentence("Whether the text of a relation is a rule, as the relations are now");
        RelationStore x = new RelationStore(0);
        String text = "(c0)|f00-T";
        boolean[] soundNow = {false, false, false, true, false, false, false, true, false, true};
        x.relation(0, true, 0, 0);
        for (int i = 0; i < text.length(); i++) {
            x.type(text.charAt(i));
            boolean want = soundNow[i];
            CHECKS.due("the first " + (i + 1) + " of " + text, want, () -> x.sound(0));
        }
        RelationStore y = new RelationStore(0);
        Checks.relation(y, 0, true, 0, 0, "f08");
        for (int relations = 1; relations <= 9; relations++) {
            boolean there = relations == 9;
            CHECKS.due("f08 with " + relations, there, () -> y.sound(0));
            CHECKS.due("the other one is a rule", relations > 1, () -> y.sound(1));
            y.relation(relations % 3, true, 0, 0);
        }
    }

    private static void acceptRefused() {
        CHECKS.sentence("UnsupportedOperationException if it is already, or there are none; IllegalArgumentException if"
                + " a text is no rule; IllegalStateException if a relation is needed barred by one that it needs.");
        RelationStore none = new RelationStore(0);
        CHECKS.due("there are none", UNSUPPORTED, () -> none.accept());
        none.relation(3, true, 0, 0);
        CHECKS.due("there are none but a refused one", UNSUPPORTED, () -> none.accept());
        for (int wrong = 0; wrong < 9; wrong++) {
            RelationStore x = new RelationStore(0);
            RelationStore y = new RelationStore(0);
            for (int r = 0; r < 9; r++) {
                Checks.relation(x, 0, true, 0, 0, r == wrong ? "T|" : "T");
                Checks.relation(y, 0, true, 0, 0, r == wrong ? "T-c" + r : "T");
            }
            CHECKS.due("text " + wrong + " is no rule", ARGUMENT, () -> x.accept());
            CHECKS.due("relation " + wrong + " bars itself", STATE, () -> y.accept());
            CHECKS.due("nothing is accepted", UNSUPPORTED, () -> y.change(true, 0, 0, 0, 0, 0));
        }
    }

    private static void acceptCounts() {
        CHECKS.sentence("The configuration is accepted: how many relations.");
        for (int relations = 1; relations <= 9; relations++) {
            RelationStore x = Stores.told(relations);
            int due = relations;
            CHECKS.due("accept of " + due, due, () -> x.accept());
            CHECKS.due("accept again", UNSUPPORTED, () -> x.accept());
            CHECKS.due("it is accepted", 1, () -> x.change(true, 0, due - 1, 0, 0, 0));
        }
    }

    private static void changeBeforeAccept() {
        CHECKS.sentence("UnsupportedOperationException if nothing is accepted");
        RelationStore x = new RelationStore(0);
        CHECKS.due("no relations", UNSUPPORTED, () -> x.change(true, 0, 0, 0, 0, 0));
        x.relation(0, true, 7, 1);
        CHECKS.due("a right tuple", UNSUPPORTED, () -> x.change(true, 0, 0, 0, 0, 0));
        CHECKS.due("one that goes", UNSUPPORTED, () -> x.change(false, 0, 0, 0, 0, 0));
        CHECKS.due("the batch is empty", STATE, () -> x.commit(-1));
        x.accept();
        CHECKS.due("accepted", 1, () -> x.change(true, 0, 0, 0, 0, 0));
    }

    private static void latestAndRecords() {
        CHECKS.sentence("How many records the log has, up to the last mark.");
        RelationStore x = Stores.open(0);
        CHECKS.due("none", 0, () -> x.records());
        Stores.fill(x, 5);
        CHECKS.due("a batch is not in it", 0, () -> x.records());
        x.commit(5);
        CHECKS.due("five without a mark", 0, () -> x.records());
        CHECKS.due("no version", 0, () -> x.latest());
        Stores.fill(x, 5);
        x.commit(6);
        CHECKS.due("five with the mark", 6, () -> x.records());
        CHECKS.due("a version", 1, () -> x.latest());
        Stores.fill(x, 1);
        x.commit(1);
        CHECKS.due("one more without a mark", 6, () -> x.records());
        CHECKS.due("no version more", 1, () -> x.latest());
        Stores.records(x, 118);
        CHECKS.due("two before the end", 118, () -> x.records());
        Stores.fill(x, 1);
        x.commit(1);
        CHECKS.due("cut two before the end", 118, () -> x.records());
        Stores.fill(x, 1);
        x.commit(2);
        CHECKS.due("the end", 120, () -> x.records());
    }

    /** A hundred different tuples are all that the log has room for. */
    private static void tuplesFromNoneToAll() {
        CHECKS.sentence("How many tuples a version has.");
        RelationStore x = Stores.open(7);
        for (int version = 1; version <= 20; version++) {
            int token = version;
            for (int i = 0; i < 5; i++) {
                int n = 5 * (version - 1) + i;
                int object = n % 12;
                int sort = n / 12 % 3;
                int a = sort == 0 ? n / 36 : sort == 1 ? 11 - n / 36 : 4 + n / 36;
                x.change(true, object, object / 4, sort, a, 1);
            }
            x.commit(-1);
            CHECKS.due("tuples of " + token, 5 * token, () -> x.tuples(token));
            CHECKS.due("tuples of the one before", 5 * (token - 1), () -> x.tuples(token - 1));
        }
    }

    private static void questionsBeforeAccept() {
        CHECKS.sentence("or nothing is accepted");
        RelationStore x = new RelationStore(7);
        for (int there = 0; there < 2; there++) {
            CHECKS.due("check", ARGUMENT, () -> x.check(0, 0, 0, 0));
            CHECKS.due("expand", ARGUMENT, () -> x.expand(0, 0, 0));
            CHECKS.due("lookup", ARGUMENT, () -> x.lookup(0, 0, 0));
            CHECKS.due("nested", ARGUMENT, () -> x.nested(0, 0, 0, 0, 0));
            CHECKS.due("tuples may be asked", 0, () -> x.tuples(0));
            CHECKS.due("watch may be asked", 0, () -> x.watch(0));
            CHECKS.due("watched may be asked", -1, () -> x.watched(0, 0, 0));
            x.relation(0, true, 7, 1);
        }
        RelationStore y = Stores.open(7);
        CHECKS.due("check, accepted", false, () -> y.check(0, 0, 0, 0));
        CHECKS.due("expand, accepted", 0, () -> y.expand(0, 0, 0));
        CHECKS.due("lookup, accepted", 0, () -> y.lookup(0, 0, 0));
        CHECKS.due("nested, accepted", false, () -> y.nested(0, 0, 0, 0, 0));
    }

    private static void bitsOfExpand() {
        CHECKS.sentence("All members, bit u for user u.");
        RelationStore x = Stores.open(7);
        CHECKS.due("no members", 0, () -> x.expand(0, 11, 2));
        for (int user = 0; user < 8; user++) {
            int bit = user;
            x.change(true, 11, 2, 0, user, 0);
            x.commit(-1);
            CHECKS.due("members 0 .. " + bit, (2 << bit) - 1, () -> x.expand(bit + 1, 11, 2));
            CHECKS.due("check of " + bit, true, () -> x.check(bit + 1, 11, 2, bit));
            CHECKS.due("check of " + bit + " one version before", false, () -> x.check(bit, 11, 2, bit));
        }
        for (int user = 0; user < 7; user++) {
            int bit = user;
            x.change(false, 11, 2, 0, user, 0);
            x.commit(-1);
            CHECKS.due("members " + (bit + 1) + " .. 7", 255 & -(2 << bit), () -> x.expand(9 + bit, 11, 2));
        }
    }

    private static void bitsOfLookup() {
        CHECKS.sentence("Of which objects of the relation's namespace a user is a member by it: bit i for the i-th of"
                + " the four.");
        for (int object = 0; object < 12; object++) {
            RelationStore x = Stores.open(0);
            x.change(true, object, object / 4, 0, 6, 0);
            x.commit(-1);
            for (int relation = 0; relation < 3; relation++) {
                int r = relation;
                int due = relation == object / 4 ? 1 << object % 4 : 0;
                CHECKS.due("object " + object + " by relation " + r, due, () -> x.lookup(1, r, 6));
                CHECKS.due("another user", 0, () -> x.lookup(1, r, 5));
            }
        }
        RelationStore x = Stores.open(0);
        for (int object = 4; object < 8; object++) {
            x.change(true, object, 1, 0, 7, 0);
        }
        x.commit(-1);
        CHECKS.due("all four", 15, () -> x.lookup(1, 1, 7));
    }

    private static void stepsOfNested() {
        CHECKS.sentence("by usersets that are subjects of tuples, in one or more steps, whatever the rules say");
        RelationStore x = new RelationStore(0);
        for (int r = 0; r < 3; r++) {
            Checks.relation(x, 0, true, 7, 7, "c" + r);
        }
        x.accept();
        for (int node = 0; node < 11; node++) {
            x.change(true, node % 4, node / 4, 2, (node + 1) % 4, (node + 1) / 4);
            x.commit(-1);
        }
        for (int from = 0; from < 12; from++) {
            for (int to = 0; to < 12; to++) {
                int f = from;
                int t = to;
                CHECKS.due("from " + f + " to " + t, f < t, () -> x.nested(11, f % 4, f / 4, t % 4, t / 4));
            }
        }
        x.change(true, 3, 2, 2, 0, 0);
        x.commit(-1);
        for (int node = 0; node < 12; node++) {
            int n = node;
            CHECKS.due("round from " + n, true, () -> x.nested(12, n % 4, n / 4, n % 4, n / 4));
        }
        CHECKS.due("no members come of it", 0, () -> x.expand(12, 0, 0));
    }

    private static void nestedByUsersetsAlone() {
        RelationStore x = Stores.open(7);
        CHECKS.due("no step in version 0", false, () -> x.nested(0, 0, 0, 0, 0));
        x.change(true, 0, 0, 1, 0, 0);
        x.change(true, 0, 0, 1, 4, 1);
        x.change(true, 0, 0, 0, 4, 1);
        x.commit(-1);
        CHECKS.due("an object is no step to itself", false, () -> x.nested(1, 0, 0, 0, 0));
        CHECKS.due("an object is no step to another", false, () -> x.nested(1, 0, 0, 4, 1));
        x.change(true, 0, 0, 2, 0, 0);
        x.commit(-1);
        CHECKS.due("a userset is one to itself", true, () -> x.nested(2, 0, 0, 0, 0));
        CHECKS.due("but not of another object", false, () -> x.nested(2, 1, 0, 1, 0));
        x.change(false, 0, 0, 2, 0, 0);
        x.change(true, 0, 0, 2, 11, 2);
        x.commit(-1);
        CHECKS.due("the last one", true, () -> x.nested(3, 0, 0, 11, 2));
        CHECKS.due("not back", false, () -> x.nested(3, 11, 2, 0, 0));
        CHECKS.due("no more to itself", false, () -> x.nested(3, 0, 0, 0, 0));
    }

    private static void countsOfWatch() {
        CHECKS.sentence("How many changes were committed since a version.");
        RelationStore x = Stores.open(7);
        for (int version = 0; version <= 20; version++) {
            int latest = version;
            for (int token = Math.max(0, version - 7); token <= version; token++) {
                int asked = token;
                CHECKS.due("since " + asked + " of " + latest, 5 * (latest - asked), () -> x.watch(asked));
            }
            Stores.fill(x, 5);
            if (version < 20) {
                x.commit(-1);
            }
        }
        CHECKS.due("a full log and a batch that waits", 35, () -> x.watch(13));
        CHECKS.due("the last of all", 20, () -> x.watched(13, 34, 6));
        CHECKS.due("behind the last of all", -1, () -> x.watched(13, 35, 6));
    }

    /** Two changes make version 1, and the third one makes version 2. */
    private static RelationStore threeChanges() {
        RelationStore x = Stores.open(7);
        x.change(true, 11, 2, 2, 10, 2);
        x.change(false, 4, 1, 1, 9, 2);
        x.commit(-1);
        x.change(true, 8, 2, 0, 7, 2);
        x.commit(-1);
        return x;
    }

    private static void edgesOfWatched() {
        CHECKS.sentence("-1 if there is no such change or what.");
        int[][] due = {{1, 11, 2, 2, 10, 2, 1}, {0, 4, 1, 1, 9, 0, 1}, {1, 8, 2, 0, 7, 0, 2}};
        int[] numbers = {LOWEST, LOWEST + 1, -8, -2, -1, 0, 1, 2, 3, 4, 5, 6, 7, 8, 119, 120, 121, HIGHEST - 1, HIGHEST};
        for (int token = 0; token <= 2; token++) {
            int first = token == 0 ? 0 : token + 1;
            RelationStore x = threeChanges();
            for (int k : numbers) {
                for (int what = -1; what <= 7; what++) {
                    int asked = what;
                    int of = token;
                    boolean there = k >= 0 && k < 3 - first && what >= 0 && what <= 6;
                    CHECKS.due("watched(" + of + ", " + k + ", " + asked + ")", there ? due[first + k][what] : -1,
                            () -> x.watched(of, k, asked));
                }
            }
        }
        RelationStore y = Stores.open(7);
        Stores.commits(y, 1);
        for (int what : numbers) {
            CHECKS.due("what " + what, what < 0 || what > 6 ? -1 : what == 0 || what == 6 ? 1 : 0,
                    () -> y.watched(0, 0, what));
            CHECKS.due("what " + what + " of no change", -1, () -> y.watched(0, 1, what));
        }
    }

    private static void severalOfAccept() {
        CHECKS.sentence("of several that apply the one that is named first is thrown");
        RelationStore x = new RelationStore(0);
        Checks.relation(x, 0, true, 0, 0, "T-c0");
        CHECKS.due("a ring alone", STATE, () -> x.accept());
        Checks.relation(x, 0, true, 0, 0, "T-");
        CHECKS.due("a ring, and no rule behind it", ARGUMENT, () -> x.accept());
        RelationStore y = new RelationStore(0);
        Checks.relation(y, 0, true, 0, 0, "c2");
        Checks.relation(y, 0, true, 0, 0, "T-c1");
        CHECKS.due("no rule, and a ring behind it", ARGUMENT, () -> y.accept());
        y.relation(0, true, 0, 0);
        CHECKS.due("the ring alone", STATE, () -> y.accept());
    }

    private static void severalOfChange() {
        RelationStore x = new RelationStore(0);
        CHECKS.due("nothing accepted, and no tuple", UNSUPPORTED, () -> x.change(true, 12, 0, 0, 0, 0));
        x.relation(0, true, 7, 1);
        CHECKS.due("nothing accepted, and no sort", UNSUPPORTED, () -> x.change(true, 0, 0, 3, 0, 0));
        x.accept();
        Stores.fill(x, 4);
        CHECKS.due("four there, and no tuple", ARGUMENT, () -> x.change(true, 0, 0, 0, 8, 0));
        Stores.fill(x, 1);
        CHECKS.due("five there", STATE, () -> x.change(true, 0, 0, 0, 7, 0));
        int[][] wrong = {{-1, 0, 0, 0, 0}, {12, 0, 0, 0, 0}, {0, -1, 0, 0, 0}, {0, 1, 0, 0, 0}, {4, 0, 0, 0, 0},
            {0, 0, -1, 0, 0}, {0, 0, 3, 0, 0}, {0, 0, 0, -1, 0}, {0, 0, 0, 8, 0}, {0, 0, 1, -1, 0}, {0, 0, 1, 12, 0},
            {0, 0, 2, -1, 0}, {0, 0, 2, 4, 0}, {0, 0, 2, 0, -1}, {0, 0, 2, 0, 1}};
        for (int[] t : wrong) {
            CHECKS.due("five there, and no tuple " + java.util.Arrays.toString(t), ARGUMENT,
                    () -> x.change(false, t[0], t[1], t[2], t[3], t[4]));
        }
    }

    private static void severalOfQuestions() {
        RelationStore x = Stores.open(0);
        Stores.commits(x, 2);
        int[][] pairs = {{-1, 0}, {12, 2}, {0, -1}, {0, 3}, {0, 9}, {4, 0}, {3, 1}, {LOWEST, 0}, {0, HIGHEST}};
        for (int token : new int[] {0, 1}) {
            CHECKS.due("too old, check", STATE, () -> x.check(token, 0, 0, 0));
            CHECKS.due("too old, expand", STATE, () -> x.expand(token, 0, 0));
            CHECKS.due("too old, lookup", STATE, () -> x.lookup(token, 0, 0));
            CHECKS.due("too old, nested", STATE, () -> x.nested(token, 0, 0, 0, 0));
            for (int[] p : pairs) {
                String name = "too old, and no " + java.util.Arrays.toString(p);
                CHECKS.due(name + ", check", ARGUMENT, () -> x.check(token, p[0], p[1], 0));
                CHECKS.due(name + ", expand", ARGUMENT, () -> x.expand(token, p[0], p[1]));
                CHECKS.due(name + ", nested from", ARGUMENT, () -> x.nested(token, p[0], p[1], 0, 0));
                CHECKS.due(name + ", nested to", ARGUMENT, () -> x.nested(token, 0, 0, p[0], p[1]));
            }
            for (int wrong : new int[] {LOWEST, -1, 8, HIGHEST}) {
                CHECKS.due("too old, and no user " + wrong + ", check", ARGUMENT, () -> x.check(token, 0, 0, wrong));
                CHECKS.due("too old, and no user " + wrong + ", lookup", ARGUMENT, () -> x.lookup(token, 0, wrong));
                CHECKS.due("too old, and no relation " + wrong + ", lookup", ARGUMENT, () -> x.lookup(token, wrong, 0));
                CHECKS.due("too old, and no change " + wrong, STATE, () -> x.watched(token, wrong, 0));
                CHECKS.due("too old, and no what " + wrong, STATE, () -> x.watched(token, 0, wrong));
            }
        }
        for (int token : new int[] {-1, 3}) {
            CHECKS.due("no token, and no change", ARGUMENT, () -> x.watched(token, -1, 0));
            CHECKS.due("no token, and no what", ARGUMENT, () -> x.watched(token, 0, 7));
            CHECKS.due("no token, and no user", ARGUMENT, () -> x.check(token, 0, 0, 8));
        }
    }
}
