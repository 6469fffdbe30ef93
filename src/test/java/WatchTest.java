/** Promises 16 and 17: watch and watched. */
public final class WatchTest {
    private static final Checks CHECKS = new Checks();
    private static final Class<?> ARGUMENT = IllegalArgumentException.class;
    private static final Class<?> STATE = IllegalStateException.class;

    public static void main(String[] args) {
        fields();
        counts();
        wrongOnes();
        tokens();
        wholeLog();
        CHECKS.end();
    }

    private static RelationStore store(int kept) {
        RelationStore x = new RelationStore(kept);
        x.relation(0, true, 7, 511);
        x.relation(1, true, 7, 511);
        x.relation(2, true, 7, 511);
        x.accept();
        return x;
    }

    private static void dueFields(RelationStore x, int token, int k, int... want) {
        for (int what = 0; what < 7; what++) {
            int asked = what;
            CHECKS.due("watched(" + token + ", " + k + ", " + what + ")", want[what], () -> x.watched(token, k, asked));
        }
    }

    private static void fields() {
        RelationStore x = store(7);
        x.change(true, 11, 2, 2, 7, 1);
        x.change(false, 3, 0, 1, 11, 99);
        x.commit(-1);
        x.change(true, 4, 1, 0, 7, -1);
        x.commit(2);
        x.change(false, 8, 2, 2, 10, 2);
        x.commit(-1);
        dueFields(x, 0, 0, 1, 11, 2, 2, 7, 1, 1);
        dueFields(x, 0, 1, 0, 3, 0, 1, 11, 0, 1);
        dueFields(x, 0, 2, 1, 4, 1, 0, 7, 0, 2);
        dueFields(x, 0, 3, 0, 8, 2, 2, 10, 2, 3);
        dueFields(x, 0, 4, -1, -1, -1, -1, -1, -1, -1);
        dueFields(x, 1, 0, 1, 4, 1, 0, 7, 0, 2);
        dueFields(x, 1, 1, 0, 8, 2, 2, 10, 2, 3);
        dueFields(x, 2, 0, 0, 8, 2, 2, 10, 2, 3);
        dueFields(x, 3, 0, -1, -1, -1, -1, -1, -1, -1);
        x.crash();
        dueFields(x, 1, 1, 0, 8, 2, 2, 10, 2, 3);
    }

    private static void counts() {
        RelationStore x = store(7);
        CHECKS.due("watch of the latest", 0, () -> x.watch(0));
        x.change(true, 0, 0, 0, 0, 0);
        CHECKS.due("the batch does not count", 0, () -> x.watch(0));
        x.change(true, 0, 0, 0, 0, 0);
        x.commit(-1);
        CHECKS.due("what changes nothing counts", 2, () -> x.watch(0));
        CHECKS.due("watch of version 1", 0, () -> x.watch(1));
        x.change(false, 0, 0, 0, 5, 0);
        x.commit(1);
        CHECKS.due("what was cut does not count", 2, () -> x.watch(0));
        x.change(false, 0, 0, 0, 5, 0);
        x.change(false, 0, 0, 0, 5, 0);
        x.change(false, 0, 0, 0, 5, 0);
        x.commit(-1);
        CHECKS.due("watch from 0", 5, () -> x.watch(0));
        CHECKS.due("watch from 1", 3, () -> x.watch(1));
        CHECKS.due("watch from 2", 0, () -> x.watch(2));
    }

    private static void wrongOnes() {
        RelationStore x = store(7);
        x.change(true, 0, 0, 0, 6, 0);
        x.commit(-1);
        int[] wrong = {-1, 1, 2, Integer.MAX_VALUE, Integer.MIN_VALUE};
        for (int k : wrong) {
            CHECKS.due("change " + k, -1, () -> x.watched(0, k, 4));
        }
        int[] whats = {-1, 7, 8, Integer.MAX_VALUE, Integer.MIN_VALUE};
        for (int what : whats) {
            CHECKS.due("what " + what, -1, () -> x.watched(0, 0, what));
        }
        CHECKS.due("the right one", 6, () -> x.watched(0, 0, 4));
    }

    private static void tokens() {
        RelationStore x = store(1);
        for (int i = 0; i < 3; i++) {
            x.change(true, 0, 0, 0, i, 0);
            x.commit(-1);
        }
        CHECKS.due("watch of -1", ARGUMENT, () -> x.watch(-1));
        CHECKS.due("watch of 4", ARGUMENT, () -> x.watch(4));
        CHECKS.due("watch of 1", STATE, () -> x.watch(1));
        CHECKS.due("watch of 2", 1, () -> x.watch(2));
        CHECKS.due("watched of -1", ARGUMENT, () -> x.watched(-1, 0, 0));
        CHECKS.due("watched of 4", ARGUMENT, () -> x.watched(4, 0, 0));
        CHECKS.due("watched of 1", STATE, () -> x.watched(1, 0, 0));
        CHECKS.due("watched of 1, and no such change", STATE, () -> x.watched(1, 9, 9));
        CHECKS.due("watched of 4, and no such change", ARGUMENT, () -> x.watched(4, -1, -1));
        CHECKS.due("watched of 2", 2, () -> x.watched(2, 0, 4));
    }

    private static void wholeLog() {
        RelationStore x = store(7);
        for (int v = 1; v <= 20; v++) {
            for (int i = 0; i < 5; i++) {
                x.change(true, v % 4, 0, 0, i, 0);
            }
            x.commit(-1);
        }
        CHECKS.due("records", 120, () -> x.records());
        CHECKS.due("watch from 13", 35, () -> x.watch(13));
        CHECKS.due("the first", 14, () -> x.watched(13, 0, 6));
        CHECKS.due("the last", 20, () -> x.watched(13, 34, 6));
        CHECKS.due("the last one's user", 4, () -> x.watched(13, 34, 4));
        CHECKS.due("behind the last", -1, () -> x.watched(13, 35, 6));
    }
}
