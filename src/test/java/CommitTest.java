/** Promises 6 to 11: change, commit, crash, latest, records, tuples. */
public final class CommitTest {
    private static final Checks CHECKS = new Checks();
    private static final Class<?> ARGUMENT = IllegalArgumentException.class;
    private static final Class<?> STATE = IllegalStateException.class;

    public static void main(String[] args) {
        wrongTuples();
        rightTuples();
        fullBatch();
        commits();
        cutCommits();
        cutRecordsAreWrittenOver();
        commitJustFull();
        fullLog();
        crashes();
        tupleSets();
        tokens();
        CHECKS.end();
    }

    /** 0 and 1 in namespace 0, 2 in namespace 1, 3 in namespace 2. */
    private static RelationStore store(int kept) {
        RelationStore x = new RelationStore(kept);
        x.relation(0, true, 2, 4);
        x.relation(0, false, 5, 0x7ffffff0 | 2);
        x.relation(1, true, 0, 0);
        x.relation(2, true, 0xf8, 0xffffffff);
        x.accept();
        return x;
    }

    private static void wrongTuples() {
        RelationStore x = store(0);
        int[][] wrong = {{-1, 0, 0, 0, 0}, {12, 3, 0, 0, 0}, {12, 0, 0, 0, 0}, {0, -1, 0, 0, 0}, {0, 4, 0, 0, 0},
            {0, 9, 0, 0, 0}, {4, 0, 0, 0, 0}, {3, 2, 0, 0, 0}, {0, 0, 0, -1, 0}, {0, 0, 0, 8, 0}, {0, 1, 0, 0, 0},
            {0, 0, -1, 0, 0}, {0, 0, 3, 0, 0}, {0, 0, 1, 0, 0}, {0, 0, 1, 3, 0}, {0, 0, 1, 8, 0}, {0, 0, 1, -1, 0},
            {0, 1, 1, 4, 0}, {0, 1, 1, 12, 0}, {8, 3, 1, 0, 0}, {8, 3, 1, 8, 0},
            {8, 3, 1, 12, 0}, {8, 3, 1, 31, 0}, {8, 3, 1, -1, 0}, {0, 0, 2, 4, 0}, {0, 0, 2, 0, 0},
            {0, 0, 2, 0, 2}, {0, 0, 2, 8, 2}, {0, 0, 2, -1, 2}, {0, 0, 2, 12, 2}, {0, 0, 2, 4, -1}, {0, 0, 2, 4, 9},
            {0, 1, 2, 0, 0}, {0, 1, 2, 4, 2}, {0, 1, 2, 4, 4}, {8, 3, 2, 8, 4}, {8, 3, 2, 8, 34},
            {4, 2, 2, 4, 2}, {Integer.MIN_VALUE, 0, 0, 0, 0}, {0, Integer.MAX_VALUE, 0, 0, 0},
            {0, 0, Integer.MIN_VALUE, 0, 0}, {0, 0, 0, Integer.MAX_VALUE, 0}, {0, 0, 2, 4, Integer.MIN_VALUE}};
        for (int[] t : wrong) {
            String name = "tuple " + java.util.Arrays.toString(t);
            CHECKS.due(name + " comes", ARGUMENT, () -> x.change(true, t[0], t[1], t[2], t[3], t[4]));
            CHECKS.due(name + " goes", ARGUMENT, () -> x.change(false, t[0], t[1], t[2], t[3], t[4]));
        }
        CHECKS.due("the batch is empty", STATE, () -> x.commit(-1));
    }

    private static void rightTuples() {
        int[][] right = {{0, 0, 0, 0, 0}, {3, 0, 0, 7, 99}, {0, 0, 0, 7, -1}, {0, 0, 1, 4, 99}, {0, 0, 1, 7, -5},
            {0, 1, 1, 0, 0}, {0, 1, 1, 11, 0}, {0, 0, 2, 4, 2}, {3, 0, 2, 7, 2}, {0, 1, 2, 3, 1}, {4, 2, 0, 3, 0},
            {7, 2, 0, 3, 0}, {8, 3, 2, 8, 3}, {11, 3, 2, 4, 2}, {11, 3, 2, 0, 0}, {11, 3, 2, 0, 1}};
        for (int[] t : right) {
            RelationStore x = store(0);
            String name = "tuple " + java.util.Arrays.toString(t);
            CHECKS.due(name + " goes", 1, () -> x.change(false, t[0], t[1], t[2], t[3], t[4]));
            CHECKS.due(name + " comes", 2, () -> x.change(true, t[0], t[1], t[2], t[3], t[4]));
            CHECKS.due(name + " commits", 1, () -> x.commit(-1));
            CHECKS.due(name + " is there", 1, () -> x.tuples(1));
        }
    }

    private static void fullBatch() {
        RelationStore x = store(0);
        for (int i = 1; i <= 5; i++) {
            int size = i;
            CHECKS.due("change " + i, i, () -> x.change(size % 2 == 0, 0, 0, 0, 0, 0));
        }
        CHECKS.due("a sixth change", STATE, () -> x.change(true, 0, 0, 0, 0, 0));
        CHECKS.due("a sixth that is no tuple", ARGUMENT, () -> x.change(true, 12, 0, 0, 0, 0));
        CHECKS.due("commit of five", 1, () -> x.commit(-1));
        CHECKS.due("records of five", 6, () -> x.records());
        CHECKS.due("change behind the commit", 1, () -> x.change(true, 0, 0, 0, 0, 0));
    }

    private static void commits() {
        RelationStore x = store(7);
        CHECKS.due("commit of nothing", STATE, () -> x.commit(-1));
        CHECKS.due("commit of nothing, cut at 0", STATE, () -> x.commit(0));
        Checks.comes(x, 0, 0, 0, 1, 0);
        Checks.comes(x, 0, 0, 0, 2, 0);
        CHECKS.due("latest before the commit", 0, () -> x.latest());
        CHECKS.due("records before the commit", 0, () -> x.records());
        CHECKS.due("commit", 1, () -> x.commit(Integer.MIN_VALUE));
        CHECKS.due("latest", 1, () -> x.latest());
        CHECKS.due("records", 3, () -> x.records());
        CHECKS.due("the batch is empty", STATE, () -> x.commit(-1));
        Checks.comes(x, 0, 0, 0, 1, 0);
        CHECKS.due("commit of what is there", 2, () -> x.commit(Integer.MAX_VALUE));
        CHECKS.due("tuples stay", 2, () -> x.tuples(2));
        CHECKS.due("records of two commits", 5, () -> x.records());
    }

    private static void cutCommits() {
        for (int size = 1; size <= 5; size++) {
            for (int most = -2; most <= size + 3; most++) {
                RelationStore x = store(7);
                Checks.comes(x, 4, 2, 0, 0, 0);
                x.commit(-1);
                for (int i = 0; i < size; i++) {
                    Checks.comes(x, 4, 2, 0, i + 1, 0);
                }
                cutCommit(x, size, most);
            }
        }
    }

    private static void cutCommit(RelationStore x, int size, int most) {
        boolean cut = most >= 0 && most <= size;
        String name = size + " changes with most " + most;
        CHECKS.due(name, cut ? -1 : 2, () -> x.commit(most));
        CHECKS.due(name + ", latest", cut ? 1 : 2, () -> x.latest());
        CHECKS.due(name + ", records", cut ? 2 : 3 + size, () -> x.records());
        CHECKS.due(name + ", tuples of 1", 1, () -> x.tuples(1));
        CHECKS.due(name + ", tuples of 2", cut ? ARGUMENT : (Object) (1 + size), () -> x.tuples(2));
        CHECKS.due(name + ", members", cut ? 1 : (1 << (size + 1)) - 1, () -> x.expand(x.latest(), 4, 2));
        CHECKS.due(name + ", watch", cut ? 0 : size, () -> x.watch(1));
        CHECKS.due(name + ", the batch is empty", STATE, () -> x.commit(most));
        CHECKS.due(name + ", next change", 1, () -> x.change(true, 4, 2, 0, 7, 0));
        CHECKS.due(name + ", next commit", cut ? 2 : 3, () -> x.commit(-1));
    }

    private static void cutRecordsAreWrittenOver() {
        RelationStore x = store(7);
        for (int i = 0; i < 5; i++) {
            Checks.comes(x, 4, 2, 0, i, 0);
        }
        CHECKS.due("cut at five", -1, () -> x.commit(5));
        Checks.comes(x, 4, 2, 0, 7, 0);
        CHECKS.due("commit behind the cut", 1, () -> x.commit(-1));
        CHECKS.due("records behind the cut", 2, () -> x.records());
        CHECKS.due("members behind the cut", 128, () -> x.expand(1, 4, 2));
        CHECKS.due("watch behind the cut", 1, () -> x.watch(0));
        CHECKS.due("watched behind the cut", 7, () -> x.watched(0, 0, 4));
        x.crash();
        CHECKS.due("members behind the crash", 128, () -> x.expand(1, 4, 2));
        Checks.comes(x, 4, 2, 0, 6, 0);
        CHECKS.due("next commit", 2, () -> x.commit(-1));
        CHECKS.due("members of the next", 192, () -> x.expand(2, 4, 2));
        CHECKS.due("records of the next", 4, () -> x.records());
    }

    private static RelationStore storeWith(int records) {
        RelationStore x = store(7);
        int left = records;
        while (left > 0) {
            int size = left == 7 ? 4 : Math.min(5, left - 1);
            for (int i = 0; i < size; i++) {
                Checks.comes(x, 0, 0, 0, i, 0);
            }
            x.commit(-1);
            left -= size + 1;
        }
        return x;
    }

    private static void commitJustFull() {
        RelationStore x = storeWith(118);
        CHECKS.due("118 records", 118, () -> x.records());
        Checks.comes(x, 0, 0, 0, 0, 0);
        int before = x.latest();
        CHECKS.due("the last two", before + 1, () -> x.commit(-1));
        CHECKS.due("120 records", 120, () -> x.records());
        Checks.comes(x, 0, 0, 0, 7, 0);
        CHECKS.due("the log is full", STATE, () -> x.commit(-1));
        CHECKS.due("the log is full, cut at 0", STATE, () -> x.commit(0));
        CHECKS.due("the batch is as it was", 2, () -> x.change(true, 0, 0, 0, 7, 0));
        CHECKS.due("tuples of the full log", 5, () -> x.tuples(x.latest()));
    }

    private static void fullLog() {
        RelationStore x = storeWith(116);
        int before = x.latest();
        for (int i = 0; i < 4; i++) {
            Checks.comes(x, 0, 0, 0, 7, 0);
        }
        CHECKS.due("no room for the mark", STATE, () -> x.commit(-1));
        CHECKS.due("no room, cut earlier", STATE, () -> x.commit(2));
        CHECKS.due("no room, latest", before, () -> x.latest());
        CHECKS.due("no room, records", 116, () -> x.records());
        CHECKS.due("the batch is as it was", 5, () -> x.change(true, 0, 0, 0, 7, 0));
        x.crash();
        for (int i = 0; i < 3; i++) {
            Checks.comes(x, 0, 0, 0, 7, 0);
        }
        CHECKS.due("three and the mark, cut", -1, () -> x.commit(3));
        for (int i = 0; i < 3; i++) {
            Checks.comes(x, 0, 0, 0, 6, 0);
        }
        CHECKS.due("three and the mark", before + 1, () -> x.commit(4));
        CHECKS.due("tuples", 6, () -> x.tuples(before + 1));
        CHECKS.due("members", 95, () -> x.expand(before + 1, 0, 0));
        CHECKS.due("records", 120, () -> x.records());
    }

    private static void crashes() {
        RelationStore x = store(1);
        x.crash();
        CHECKS.due("latest behind a first crash", 0, () -> x.latest());
        Checks.comes(x, 0, 0, 0, 3, 0);
        x.commit(-1);
        Checks.comes(x, 0, 0, 0, 4, 0);
        x.commit(-1);
        CHECKS.due("members of 1", 8, () -> x.expand(1, 0, 0));
        CHECKS.due("members of 2", 24, () -> x.expand(2, 0, 0));
        Checks.comes(x, 0, 0, 0, 5, 0);
        x.crash();
        CHECKS.due("the batch is empty", STATE, () -> x.commit(-1));
        CHECKS.due("latest behind the crash", 2, () -> x.latest());
        CHECKS.due("records behind the crash", 4, () -> x.records());
        CHECKS.due("members of 1 behind the crash", 8, () -> x.expand(1, 0, 0));
        CHECKS.due("members of 2 behind the crash", 24, () -> x.expand(2, 0, 0));
        CHECKS.due("version 0 is too old all the same", STATE, () -> x.tuples(0));
        CHECKS.due("the batch begins anew", 1, () -> x.change(true, 0, 0, 0, 5, 0));
    }

    private static void tupleSets() {
        RelationStore x = store(7);
        Checks.comes(x, 0, 0, 0, 4, 0);
        Checks.comes(x, 0, 0, 0, 4, 7);
        Checks.comes(x, 0, 0, 1, 4, 0);
        Checks.comes(x, 0, 0, 1, 4, 7);
        Checks.comes(x, 0, 0, 2, 4, 2);
        x.commit(-1);
        CHECKS.due("user, object and userset", 3, () -> x.tuples(1));
        Checks.comes(x, 1, 0, 0, 4, 0);
        x.change(false, 0, 0, 1, 4, 3);
        x.change(false, 1, 0, 0, 4, 0);
        x.change(false, 2, 0, 0, 4, 0);
        Checks.comes(x, 2, 0, 0, 4, 0);
        x.commit(-1);
        CHECKS.due("in their order", 3, () -> x.tuples(2));
        CHECKS.due("came and went", 0, () -> x.expand(2, 1, 0));
        CHECKS.due("went and came", 16, () -> x.expand(2, 2, 0));
        CHECKS.due("the older version stays", 3, () -> x.tuples(1));
        CHECKS.due("the empty version stays", 0, () -> x.tuples(0));
        Checks.comes(x, 8, 3, 2, 8, 3);
        Checks.comes(x, 8, 3, 2, 9, 3);
        Checks.comes(x, 8, 3, 2, 11, 3);
        Checks.comes(x, 8, 3, 2, 0, 0);
        Checks.comes(x, 8, 3, 2, 0, 1);
        x.commit(-1);
        CHECKS.due("usersets are told apart", 8, () -> x.tuples(3));
    }

    private static void tokens() {
        RelationStore x = store(1);
        CHECKS.due("token -1", ARGUMENT, () -> x.tuples(-1));
        CHECKS.due("token 1", ARGUMENT, () -> x.tuples(1));
        CHECKS.due("lowest token", ARGUMENT, () -> x.tuples(Integer.MIN_VALUE));
        CHECKS.due("highest token", ARGUMENT, () -> x.tuples(Integer.MAX_VALUE));
        for (int i = 0; i < 60; i++) {
            Checks.comes(x, 0, 0, 0, i % 8, 0);
            CHECKS.due("version " + (i + 1), i + 1, () -> x.commit(-1));
        }
        CHECKS.due("version 60", 8, () -> x.tuples(60));
        CHECKS.due("version 59", 8, () -> x.tuples(59));
        CHECKS.due("version 58", STATE, () -> x.tuples(58));
        CHECKS.due("version 61", ARGUMENT, () -> x.tuples(61));
        CHECKS.due("all the log's room", 120, () -> x.records());
    }
}
