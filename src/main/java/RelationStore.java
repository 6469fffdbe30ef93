import java.util.Arrays;

/**
 * A store that says who may do what: relations between objects and users, whose members are told by
 * tuples, by other relations, and by unions, meets and differences of these. Every commit makes a new
 * version, and a crash in a commit loses it whole or not at all.
 */
public final class RelationStore {
    private static final int USERS = 8;
    private static final int OBJECTS = 12;
    private static final int NAMESPACES = 3;
    private static final int OBJECTS_EACH = 4;
    private static final int MOST_RELATIONS = 9;
    private static final int MOST_TEXT = 24;
    private static final int DEEPEST = 5;
    private static final int MOST_CHANGES = 5;
    private static final int LOG_ROOM = 120;
    private static final int MOST_KEPT = 8;

    // The relation tells the namespace of the object, so four places for each relation are enough.
    private static final int NODES = MOST_RELATIONS * OBJECTS_EACH;

    private static final int SORT_USER = 0;
    private static final int SORT_OBJECT = 1;
    private static final int SORT_USERSET = 2;

    // All that may be subjects of one node's tuples are 8 + 12 + 36 bits, which one long holds.
    private static final int FIRST_OBJECT_BIT = USERS;
    private static final int FIRST_USERSET_BIT = USERS + OBJECTS;

    // A record has its k-th field of watched() in its k-th four bits, so none is below 0 but the mark.
    private static final int FIELD_BITS = 4;
    private static final int FIELD_MASK = 15;
    private static final int FIELDS = 6;
    private static final int MARK = -1;

    private final int kept;
    private final Configuration configuration = new Configuration();
    private final int[] batch = new int[MOST_CHANGES];
    private int batched;
    private final Log log = new Log();
    private final Version[] versions = new Version[MOST_KEPT];

    public RelationStore(int kept) {
        this.kept = 1 + (kept & (MOST_KEPT - 1));
        for (int i = 0; i < MOST_KEPT; i++) {
            versions[i] = new Version();
        }
    }

    public int relation(int namespace, boolean users, int objects, int usersets) {
        return configuration.add(namespace, users, objects, usersets);
    }

    public boolean type(char c) {
        return configuration.append(c);
    }

    public boolean sound(int relation) {
        return configuration.isRule(relation);
    }

    public int accept() throws UnsupportedOperationException, IllegalArgumentException, IllegalStateException {
        if (configuration.accepted || configuration.count == 0) {
            throw new UnsupportedOperationException();
        }
        if (!configuration.allAreRules()) {
            throw new IllegalArgumentException();
        }
        if (configuration.hasBarredRing()) {
            throw new IllegalStateException();
        }
        configuration.findLevels();
        configuration.accepted = true;
        return configuration.count;
    }

    public int change(boolean comes, int object, int relation, int sort, int a, int s)
            throws UnsupportedOperationException, IllegalArgumentException, IllegalStateException {
        if (!configuration.accepted) {
            throw new UnsupportedOperationException();
        }
        if (!configuration.isTuple(object, relation, sort, a, s)) {
            throw new IllegalArgumentException();
        }
        if (batched >= MOST_CHANGES) {
            throw new IllegalStateException();
        }
        batch[batched] = packed(comes, object, relation, sort, a, sort == SORT_USERSET ? s : 0);
        batched++;
        return batched;
    }

    public int commit(int most) throws IllegalStateException {
        int due = batched + 1;
        if (batched == 0 || !log.hasRoomFor(due)) {
            throw new IllegalStateException();
        }
        boolean cut = most >= 0 && most < due;
        int written = cut ? most : batched;
        for (int i = 0; i < written; i++) {
            log.write(i, batch[i]);
        }
        if (!cut) {
            log.mark(batched);
        }
        batched = 0;
        if (most >= 0 && most <= due) {
            forget();
        }
        return cut ? -1 : log.marks;
    }

    public void crash() {
        forget();
    }

    public int latest() {
        return log.marks;
    }

    public int records() {
        return log.length;
    }

    public int tuples(int token) throws IllegalArgumentException, IllegalStateException {
        refuseUnless(true, token);
        return versionOf(token).size();
    }

    public boolean check(int token, int object, int relation, int user)
            throws IllegalArgumentException, IllegalStateException {
        refuseUnless(configuration.mayAsk(object, relation) && isUser(user), token);
        int members = versionOf(token).membersOf(nodeOf(object, relation), configuration);
        return hasBit(members, user);
    }

    public int expand(int token, int object, int relation) throws IllegalArgumentException, IllegalStateException {
        refuseUnless(configuration.mayAsk(object, relation), token);
        return versionOf(token).membersOf(nodeOf(object, relation), configuration);
    }

    public int lookup(int token, int relation, int user) throws IllegalArgumentException, IllegalStateException {
        refuseUnless(configuration.accepted && configuration.isRelation(relation) && isUser(user), token);
        Version version = versionOf(token);
        int found = 0;
        for (int place = 0; place < OBJECTS_EACH; place++) {
            if (hasBit(version.membersOf(nodeOf(place, relation), configuration), user)) {
                found |= 1 << place;
            }
        }
        return found;
    }

    public boolean nested(int token, int object, int relation, int other, int s)
            throws IllegalArgumentException, IllegalStateException {
        refuseUnless(configuration.mayAsk(object, relation) && configuration.mayAsk(other, s), token);
        return versionOf(token).leads(nodeOf(object, relation), nodeOf(other, s));
    }

    public int watch(int token) throws IllegalArgumentException, IllegalStateException {
        refuseUnless(true, token);
        return log.changesSince(token);
    }

    public int watched(int token, int k, int what) throws IllegalArgumentException, IllegalStateException {
        refuseUnless(true, token);
        if (k < 0 || k >= log.changesSince(token) || what < 0 || what > FIELDS) {
            return -1;
        }
        int place = log.placeOf(token, k);
        return what == FIELDS ? log.marksBefore(place) + 1 : field(log.records[place], what);
    }

    private void refuseUnless(boolean named, int token) {
        if (!named || token < 0 || token > log.marks) {
            throw new IllegalArgumentException();
        }
        if (token <= log.marks - kept) {
            throw new IllegalStateException();
        }
    }

    // The kept versions follow one another and are at most eight, so no two of them share a slot.
    private Version versionOf(int token) {
        Version version = versions[token % MOST_KEPT];
        if (version.token != token) {
            version.replay(log, token);
        }
        return version;
    }

    // What a crash leaves is the log, so all that was worked out from it must be worked out again.
    private void forget() {
        batched = 0;
        for (int i = 0; i < MOST_KEPT; i++) {
            versions[i].token = -1;
        }
    }

    private static boolean isUser(int user) {
        return user >= 0 && user < USERS;
    }

    private static boolean isObject(int object) {
        return object >= 0 && object < OBJECTS;
    }

    private static boolean hasBit(int mask, int bit) {
        return ((mask >> bit) & 1) != 0;
    }

    private static int nodeOf(int object, int relation) {
        return relation * OBJECTS_EACH + object % OBJECTS_EACH;
    }

    private static int packed(boolean comes, int object, int relation, int sort, int a, int s) {
        int record = s;
        record = (record << FIELD_BITS) | a;
        record = (record << FIELD_BITS) | sort;
        record = (record << FIELD_BITS) | relation;
        record = (record << FIELD_BITS) | object;
        return (record << FIELD_BITS) | (comes ? 1 : 0);
    }

    private static int field(int record, int what) {
        return (record >> (FIELD_BITS * what)) & FIELD_MASK;
    }

    /** A relation as it is told: what is listed, its text, and what was read from the text. */
    private static final class Relation {
        private int namespace;
        private boolean users;
        private int objects;
        private int usersets;
        private final char[] text = new char[MOST_TEXT];
        private int length;

        // The rule with each operator behind its two sides, so that a stack works it out.
        private final char[] kinds = new char[MOST_TEXT];
        private final int[] firsts = new int[MOST_TEXT];
        private final int[] seconds = new int[MOST_TEXT];
        private int steps;

        private int needed;
        private int barred;
        private int level;

        void forgetRule() {
            steps = 0;
            needed = 0;
            barred = 0;
        }

        void addStep(char kind, int first, int second) {
            if (steps < MOST_TEXT) {
                kinds[steps] = kind;
                firsts[steps] = first;
                seconds[steps] = second;
                steps++;
            }
        }

        void need(int mask, boolean isBarred) {
            needed |= mask;
            if (isBarred) {
                barred |= mask;
            }
        }
    }

    /** Reads a relation's text, against the relations that are there now. */
    private static final class Reader {
        private Relation[] relations;
        private int count;
        private Relation own;
        private int at;

        boolean reads(Relation[] all, int howMany, Relation relation) {
            relations = all;
            count = howMany;
            own = relation;
            at = 0;
            own.forgetRule();
            if (own.length == 0) {
                return readTuples(false);
            }
            return readExpression(0, false) && at == own.length;
        }

        private boolean readExpression(int depth, boolean barred) {
            if (!readPart(depth, barred)) {
                return false;
            }
            while (at < own.length && isOperator(own.text[at])) {
                char operator = own.text[at];
                at++;
                if (!readPart(depth, barred || operator == '-')) {
                    return false;
                }
                own.addStep(operator, 0, 0);
            }
            return true;
        }

        private boolean readPart(int depth, boolean barred) {
            char kind = next();
            if (kind == 'T') {
                return readTuples(barred);
            }
            if (kind == 'c') {
                return readSame(barred);
            }
            if (kind == 'f') {
                return readFrom(barred);
            }
            return kind == '(' && depth < DEEPEST && readExpression(depth + 1, barred) && next() == ')';
        }

        private boolean readTuples(boolean barred) {
            own.need(own.usersets & ((1 << count) - 1), barred);
            own.addStep('T', 0, 0);
            return true;
        }

        private boolean readSame(boolean barred) {
            int x = readName();
            if (!isOfOwnNamespace(x)) {
                return false;
            }
            own.need(1 << x, barred);
            own.addStep('c', 0, x);
            return true;
        }

        private boolean readFrom(boolean barred) {
            int t = readName();
            int x = readName();
            if (!isOfOwnNamespace(t) || x < 0) {
                return false;
            }
            own.need((1 << t) | (1 << x), barred);
            own.addStep('f', t, x);
            return true;
        }

        private int readName() {
            int name = next() - '0';
            return name >= 0 && name < count ? name : -1;
        }

        private boolean isOfOwnNamespace(int relation) {
            return relation >= 0 && relations[relation].namespace == own.namespace;
        }

        // Behind the end there is a space, which is nowhere right.
        private char next() {
            if (at >= own.length) {
                return ' ';
            }
            at++;
            return own.text[at - 1];
        }

        private static boolean isOperator(char c) {
            return c == '&' || c == '|' || c == '-';
        }
    }

    /** The relations, and whether they are accepted. */
    private static final class Configuration {
        private final Relation[] relations = new Relation[MOST_RELATIONS];
        private int count;
        private boolean accepted;
        private final Reader reader = new Reader();
        private final int[] reached = new int[MOST_RELATIONS];

        Configuration() {
            for (int i = 0; i < MOST_RELATIONS; i++) {
                relations[i] = new Relation();
            }
        }

        int add(int namespace, boolean users, int objects, int usersets) {
            if (accepted || count >= MOST_RELATIONS || namespace < 0 || namespace >= NAMESPACES) {
                return -1;
            }
            Relation added = relations[count];
            added.namespace = namespace;
            added.users = users;
            added.objects = objects;
            added.usersets = usersets;
            count++;
            return count - 1;
        }

        boolean append(char c) {
            if (accepted || count == 0) {
                return false;
            }
            Relation last = relations[count - 1];
            if (last.length >= MOST_TEXT) {
                return false;
            }
            last.text[last.length] = c;
            last.length++;
            return true;
        }

        boolean isRelation(int relation) {
            return relation >= 0 && relation < count;
        }

        boolean isNode(int object, int relation) {
            return isObject(object) && isRelation(relation)
                    && relations[relation].namespace == object / OBJECTS_EACH;
        }

        boolean mayAsk(int object, int relation) {
            return accepted && isNode(object, relation);
        }

        boolean isTuple(int object, int relation, int sort, int a, int s) {
            return isNode(object, relation) && isListed(relations[relation], sort, a, s);
        }

        private boolean isListed(Relation relation, int sort, int a, int s) {
            switch (sort) {
                case SORT_USER:
                    return relation.users && isUser(a);
                case SORT_OBJECT:
                    return isObject(a) && hasBit(relation.objects, a / OBJECTS_EACH);
                case SORT_USERSET:
                    return isNode(a, s) && hasBit(relation.usersets, s);
                default:
                    return false;
            }
        }

        boolean isRule(int relation) {
            return isRelation(relation) && reader.reads(relations, count, relations[relation]);
        }

        boolean allAreRules() {
            for (int r = 0; r < count; r++) {
                if (!reader.reads(relations, count, relations[r])) {
                    return false;
                }
            }
            return true;
        }

        // Whether a relation that is needed barred needs, in some steps, the one that bars it.
        boolean hasBarredRing() {
            findReached();
            for (int r = 0; r < count; r++) {
                for (int x = 0; x < count; x++) {
                    if (hasBit(relations[r].barred, x) && hasBit(reached[x], r)) {
                        return true;
                    }
                }
            }
            return false;
        }

        private void findReached() {
            for (int r = 0; r < count; r++) {
                reached[r] = relations[r].needed;
            }
            for (int middle = 0; middle < count; middle++) {
                for (int r = 0; r < count; r++) {
                    if (hasBit(reached[r], middle)) {
                        reached[r] |= reached[middle];
                    }
                }
            }
        }

        // No way without a ring is longer than the relations are many, and rings bar nothing, so as
        // many rounds are enough.
        void findLevels() {
            for (int r = 0; r < count; r++) {
                relations[r].level = 0;
            }
            for (int round = 0; round < count; round++) {
                for (int r = 0; r < count; r++) {
                    relations[r].level = levelAbove(relations[r]);
                }
            }
        }

        private int levelAbove(Relation relation) {
            int level = relation.level;
            for (int x = 0; x < count; x++) {
                if (hasBit(relation.needed, x)) {
                    level = Math.max(level, relations[x].level);
                }
                if (hasBit(relation.barred, x)) {
                    level = Math.max(level, relations[x].level + 1);
                }
            }
            return level;
        }
    }

    /** The records in their order: all that outlives a crash, and all that versions are made of. */
    private static final class Log {
        private final int[] records = new int[LOG_ROOM];
        private int length;
        private int marks;

        boolean hasRoomFor(int more) {
            return more <= LOG_ROOM - length;
        }

        // The length stays as it was: until the mark is there, the record may be written over.
        void write(int offset, int record) {
            if (length + offset < LOG_ROOM) {
                records[length + offset] = record;
            }
        }

        void mark(int offset) {
            write(offset, MARK);
            length += offset + 1;
            marks++;
        }

        int lengthAt(int token) {
            int passed = 0;
            int at = 0;
            while (at < length && passed < token) {
                if (records[at] == MARK) {
                    passed++;
                }
                at++;
            }
            return at;
        }

        int changesSince(int token) {
            return length - lengthAt(token) - (marks - token);
        }

        int placeOf(int token, int k) {
            int left = k;
            int at = lengthAt(token);
            while (at < length - 1 && (left > 0 || records[at] == MARK)) {
                if (records[at] != MARK) {
                    left--;
                }
                at++;
            }
            return at;
        }

        int marksBefore(int place) {
            int passed = 0;
            for (int at = 0; at < place; at++) {
                if (records[at] == MARK) {
                    passed++;
                }
            }
            return passed;
        }
    }

    /** One version's tuples, made from the log, and the members that follow, once they are asked for. */
    private static final class Version {
        private int token = -1;
        private final long[] subjects = new long[NODES];
        private final int[] members = new int[NODES];
        private boolean workedOut;
        private final int[] stack = new int[MOST_TEXT];

        void replay(Log log, int wanted) {
            Arrays.fill(subjects, 0L);
            int end = log.lengthAt(wanted);
            for (int at = 0; at < end; at++) {
                if (log.records[at] != MARK) {
                    apply(log.records[at]);
                }
            }
            token = wanted;
            workedOut = false;
        }

        private void apply(int record) {
            int node = nodeOf(field(record, 1), field(record, 2));
            long subject = 1L << subjectBit(field(record, 3), field(record, 4), field(record, 5));
            if (field(record, 0) == 1) {
                subjects[node] |= subject;
            } else {
                subjects[node] &= ~subject;
            }
        }

        private static int subjectBit(int sort, int a, int s) {
            if (sort == SORT_USER) {
                return a;
            }
            return sort == SORT_OBJECT ? FIRST_OBJECT_BIT + a : FIRST_USERSET_BIT + nodeOf(a, s);
        }

        int size() {
            int size = 0;
            for (int node = 0; node < NODES; node++) {
                size += Long.bitCount(subjects[node]);
            }
            return size;
        }

        boolean leads(int from, int to) {
            long reached = 0;
            long grown = subjects[from] >>> FIRST_USERSET_BIT;
            for (int step = 0; step < NODES && grown != reached; step++) {
                reached = grown;
                for (int node = 0; node < NODES; node++) {
                    if (((reached >>> node) & 1) != 0) {
                        grown |= subjects[node] >>> FIRST_USERSET_BIT;
                    }
                }
            }
            return ((grown >>> to) & 1) != 0;
        }

        int membersOf(int node, Configuration configuration) {
            if (!workedOut) {
                Arrays.fill(members, 0);
                for (int level = 0; level < configuration.count; level++) {
                    settle(configuration, level);
                }
                workedOut = true;
            }
            return members[node];
        }

        // What is barred stands on lower levels, so members only come: each round but the last has
        // at least one more of them.
        private void settle(Configuration configuration, int level) {
            boolean grows = true;
            for (int round = 0; grows && round <= NODES * USERS; round++) {
                grows = false;
                for (int r = 0; r < configuration.count; r++) {
                    if (configuration.relations[r].level == level && grow(configuration.relations, r)) {
                        grows = true;
                    }
                }
            }
        }

        private boolean grow(Relation[] relations, int relation) {
            boolean grows = false;
            for (int place = 0; place < OBJECTS_EACH; place++) {
                int node = nodeOf(place, relation);
                int worked = workOut(relations, relation, place);
                if (worked != members[node]) {
                    members[node] = worked;
                    grows = true;
                }
            }
            return grows;
        }

        // A rule that was read has two values on the stack wherever an operator takes two.
        private int workOut(Relation[] relations, int relation, int place) {
            Relation own = relations[relation];
            int top = 0;
            for (int step = 0; step < own.steps; step++) {
                char kind = own.kinds[step];
                int x = own.seconds[step];
                if (kind == 'T') {
                    stack[top] = tupleMembers(nodeOf(place, relation));
                    top++;
                } else if (kind == 'c') {
                    stack[top] = members[nodeOf(place, x)];
                    top++;
                } else if (kind == 'f') {
                    stack[top] = objectMembers(nodeOf(place, own.firsts[step]), x, relations[x].namespace);
                    top++;
                } else if (top > 1) {
                    top--;
                    stack[top - 1] = joined(kind, stack[top - 1], stack[top]);
                }
            }
            return stack[0];
        }

        private static int joined(char operator, int first, int second) {
            if (operator == '&') {
                return first & second;
            }
            return operator == '|' ? first | second : first & ~second;
        }

        private int tupleMembers(int node) {
            int found = (int) subjects[node] & ((1 << USERS) - 1);
            long usersets = subjects[node] >>> FIRST_USERSET_BIT;
            for (int other = 0; other < NODES && usersets != 0; other++) {
                if ((usersets & 1) != 0) {
                    found |= members[other];
                }
                usersets >>>= 1;
            }
            return found;
        }

        private int objectMembers(int node, int relation, int namespace) {
            int first = namespace * OBJECTS_EACH;
            int found = 0;
            for (int object = first; object < first + OBJECTS_EACH; object++) {
                if (((subjects[node] >>> (FIRST_OBJECT_BIT + object)) & 1) != 0) {
                    found |= members[nodeOf(object, relation)];
                }
            }
            return found;
        }
    }
}
