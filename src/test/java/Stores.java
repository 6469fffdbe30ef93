/** Stores that several tests begin with. */
final class Stores {
    private Stores() { }

    /** Relation n is of namespace n, for 0, 1 and 2; all that can be listed is listed. */
    static RelationStore open(int kept) {
        RelationStore x = new RelationStore(kept);
        for (int namespace = 0; namespace < 3; namespace++) {
            x.relation(namespace, true, 7, 7);
        }
        x.accept();
        return x;
    }

    /** So many relations of namespace 0 with empty texts, which list all; not accepted. */
    static RelationStore told(int relations) {
        RelationStore x = new RelationStore(7);
        for (int r = 0; r < relations; r++) {
            x.relation(0, true, 7, 511);
        }
        return x;
    }

    /** Puts so many right changes into the batch of a store that lists users for relation 0. */
    static void fill(RelationStore x, int changes) {
        for (int user = 0; user < changes; user++) {
            x.change(true, 0, 0, 0, user, 0);
        }
    }

    /** Commits so many versions, each with one change. */
    static void commits(RelationStore x, int versions) {
        for (int i = 0; i < versions; i++) {
            x.change(true, 0, 0, 0, i % 8, 0);
            x.commit(-1);
        }
    }

    /** Commits until the log has just so many records, which are 0 or more than 1. */
    static void records(RelationStore x, int records) {
        int left = records - x.records();
        while (left > 0) {
            int changes = left == 7 ? 4 : Math.min(5, left - 1);
            fill(x, changes);
            x.commit(-1);
            left -= changes + 1;
        }
    }
}
