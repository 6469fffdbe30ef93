/** The edges of batches, commits, crashes, the log's room, and the versions that are kept. */
public final class LogEdgesTest {
    private static final Checks CHECKS = new Checks();
    private static final Class<?> ARGUMENT = IllegalArgumentException.class;
    private static final Class<?> STATE = IllegalStateException.class;
    private static final int LOWEST = Integer.MIN_VALUE;
    private static final int HIGHEST = Integer.MAX_VALUE;

    public static void main(String[] args) {
        fiveChanges();
        whatChangesNothing();
        recordsAndMark();
        roomOfTheLog();
        allMostsWithoutRoom();
        smallerBatchWhereALargerOneWasRefused();
        emptyBatch();
        mosts();
        cutEverywhere();
        writtenOver();
        cutOftenerThanTheLogIsLong();
        crashBehindTheMark();
        crashes();
        versionZero();
        keptVersions();
        tokensOfFirstVersions();
        tokensBehindACut();
        allTokens();
        slotsOfVersions();
        lastCalls();
        CHECKS.end();
    }

    private static void fiveChanges() {
        CHECKS.sentence("a tuple that comes or goes, at most 5, in their order");
        for (int before = 0; before <= 5; before++) {
            int there = before;
            RelationStore x = Stores.open(0);
            Stores.fill(x, before);
            CHECKS.due("a change behind " + before, there < 5 ? there + 1 : (Object) STATE,
                    () -> x.change(false, 0, 0, 1, 0, 0));
            CHECKS.due("records of the batch", Math.min(5, there + 1) + 1, () -> {
                x.commit(-1);
                return x.records();
            });
            CHECKS.due("tuples of the batch", there, () -> x.tuples(1));
        }
        for (int changes = 1; changes <= 5; changes++) {
            RelationStore x = Stores.open(7);
            for (int i = 0; i < changes; i++) {
                x.change(i % 2 == 0, 0, 0, 0, 0, 0);
                x.change(i % 2 == 1, 0, 0, 0, 1, 0);
                x.commit(-1);
            }
            RelationStore y = Stores.open(7);
            for (int i = 0; i < changes; i++) {
                y.change(i % 2 == 0, 0, 0, 0, 0, 0);
            }
            y.commit(-1);
            boolean comes = changes % 2 == 1;
            CHECKS.due(changes + " of one tuple in one batch", comes, () -> y.check(1, 0, 0, 0));
            CHECKS.due(changes + " of two tuples in turns", comes ? 1 : 2, () -> x.expand(x.latest(), 0, 0));
        }
    }

    private static void whatChangesNothing() {
        CHECKS.sentence("one that is there already or is not there changes nothing, but is a change");
        int[][] subjects = {{0, 7, 0}, {1, 11, 0}, {2, 11, 2}};
        for (int[] s : subjects) {
            RelationStore x = Stores.open(7);
            String name = "sort " + s[0];
            CHECKS.due(name + ", goes and is not there", 1, () -> x.change(false, 3, 0, s[0], s[1], s[2]));
            CHECKS.due(name + ", makes a version", 1, () -> x.commit(-1));
            CHECKS.due(name + ", without tuples", 0, () -> x.tuples(1));
            CHECKS.due(name + ", records", 2, () -> x.records());
            CHECKS.due(name + ", one change", 1, () -> x.watch(0));
            CHECKS.due(name + ", it goes", 0, () -> x.watched(0, 0, 0));
            x.change(true, 3, 0, s[0], s[1], s[2]);
            x.commit(-1);
            CHECKS.due(name + ", comes and is there", 1, () -> x.change(true, 3, 0, s[0], s[1], s[2]));
            CHECKS.due(name + ", makes a third version", 3, () -> x.commit(-1));
            CHECKS.due(name + ", is there once", 1, () -> x.tuples(3));
            CHECKS.due(name + ", records of three", 6, () -> x.records());
            CHECKS.due(name + ", it comes", 1, () -> x.watched(2, 0, 0));
            x.change(false, 3, 0, s[0], s[1], s[2]);
            x.commit(-1);
            CHECKS.due(name + ", goes at once however often it came", 0, () -> x.tuples(4));
        }
        RelationStore x = Stores.open(7);
        for (int i = 0; i < 5; i++) {
            x.change(i < 3, 0, 0, 0, 0, 0);
        }
        x.commit(-1);
        CHECKS.due("three times it comes, twice it goes", 0, () -> x.tuples(1));
        CHECKS.due("all are changes", 5, () -> x.watch(0));
    }

    private static void recordsAndMark() {
        CHECKS.sentence("writes a record for each of them, then the mark, one record more");
        RelationStore x = Stores.open(0);
        int due = 0;
        for (int changes = 1; changes <= 5; changes++) {
            Stores.fill(x, changes);
            int before = due;
            CHECKS.due("records before the commit of " + changes, before, () -> x.records());
            x.commit(-1);
            due += changes + 1;
            int after = due;
            CHECKS.due("records behind the commit of " + changes, after, () -> x.records());
        }
    }

    private static void roomOfTheLog() {
        CHECKS.sentence("THE LOG has room for 120 RECORDS.");
        for (int changes = 1; changes <= 5; changes++) {
            for (int end = 119; end <= 122; end++) {
                int before = end - changes - 1;
                RelationStore x = Stores.open(0);
                Stores.records(x, before);
                int versions = x.latest();
                Stores.fill(x, changes);
                boolean fits = end <= 120;
                int size = changes;
                int whole = end;
                String name = changes + " changes behind " + before + " records";
                CHECKS.due(name, fits ? versions + 1 : (Object) STATE, () -> x.commit(-1));
                CHECKS.due(name + ", records", fits ? whole : before, () -> x.records());
                CHECKS.due(name + ", latest", fits ? versions + 1 : versions, () -> x.latest());
                if (changes < 5) {
                    CHECKS.due(name + ", the batch", fits ? 1 : size + 1, () -> x.change(true, 0, 0, 0, 0, 0));
                }
            }
        }
        RelationStore x = Stores.open(0);
        Stores.records(x, 120);
        CHECKS.due("a full log can be asked", 5, () -> x.tuples(x.latest()));
        Stores.fill(x, 1);
        CHECKS.due("a full log takes nothing", STATE, () -> x.commit(-1));
        x.crash();
        CHECKS.due("a full log stays full behind a crash", 120, () -> x.records());
        Stores.fill(x, 1);
        CHECKS.due("a full log takes nothing behind a crash", STATE, () -> x.commit(-1));
    }

    private static void allMostsWithoutRoom() {
        CHECKS.sentence("or the log has not room for all its records and the mark");
        int[] mosts = {LOWEST, -1, 0, 1, 2, 3, 4, 5, 6, HIGHEST};
        for (int changes = 1; changes <= 5; changes++) {
            RelationStore x = Stores.open(0);
            Stores.records(x, 120 - changes);
            Stores.fill(x, changes);
            for (int most : mosts) {
                CHECKS.due(changes + " and no room for the mark, most " + most, STATE, () -> x.commit(most));
            }
            RelationStore y = Stores.open(0);
            Stores.records(y, 119 - changes);
            int latest = y.latest();
            Stores.fill(y, changes);
            CHECKS.due(changes + " and just room for the mark, cut", -1, () -> y.commit(0));
            Stores.fill(y, changes);
            CHECKS.due(changes + " and just room for the mark", latest + 1, () -> y.commit(HIGHEST));
        }
    }

    private static void smallerBatchWhereALargerOneWasRefused() {
        RelationStore x = Stores.open(0);
        Stores.records(x, 116);
        Stores.fill(x, 4);
        CHECKS.due("four have no room", STATE, () -> x.commit(-1));
        x.crash();
        Stores.fill(x, 3);
        int next = x.latest() + 1;
        CHECKS.due("three have room", next, () -> x.commit(-1));
        CHECKS.due("all of it", 120, () -> x.records());
    }

    private static void emptyBatch() {
        CHECKS.sentence("IllegalStateException if the batch is empty");
        int[] mosts = {LOWEST, -1, 0, 1, 2, HIGHEST};
        for (int most : mosts) {
            RelationStore fresh = new RelationStore(0);
            CHECKS.due("new, most " + most, STATE, () -> fresh.commit(most));
            RelationStore x = Stores.open(0);
            CHECKS.due("accepted, most " + most, STATE, () -> x.commit(most));
            Stores.fill(x, 1);
            CHECKS.due("one change, most " + most, most == 0 || most == 1 ? -1 : 1, () -> x.commit(most));
            CHECKS.due("behind the commit, most " + most, STATE, () -> x.commit(most));
            Stores.fill(x, 1);
            x.crash();
            CHECKS.due("behind a crash, most " + most, STATE, () -> x.commit(most));
        }
    }

    private static void mosts() {
        CHECKS.sentence("with at most so many records (any number of them, if most is below 0)");
        for (int changes = 1; changes <= 5; changes++) {
            int[] mosts = {LOWEST, -121, -2, -1, 0, 1, changes - 1, changes, changes + 1, changes + 2, 119, 120, 121,
                HIGHEST};
            for (int most : mosts) {
                RelationStore x = Stores.open(7);
                Stores.fill(x, changes);
                boolean cut = most >= 0 && most <= changes;
                int size = changes;
                String name = changes + " changes, most " + most;
                CHECKS.due(name, cut ? -1 : 1, () -> x.commit(most));
                CHECKS.due(name + ", records", cut ? 0 : size + 1, () -> x.records());
                CHECKS.due(name + ", latest", cut ? 0 : 1, () -> x.latest());
                CHECKS.due(name + ", members", cut ? 0 : (1 << size) - 1, () -> x.expand(x.latest(), 0, 0));
                CHECKS.due(name + ", the batch is empty", 1, () -> x.change(true, 0, 0, 0, 0, 0));
            }
        }
    }

    private static void cutEverywhere() {
        CHECKS.sentence("a crash when so many are written, and the answer is -1");
        for (int changes = 1; changes <= 5; changes++) {
            for (int most = 0; most <= changes; most++) {
                RelationStore x = Stores.open(1);
                Stores.commits(x, 3);
                Stores.fill(x, changes);
                int at = most;
                String name = changes + " changes cut at " + most;
                CHECKS.due(name, -1, () -> x.commit(at));
                CHECKS.due(name + ", latest", 3, () -> x.latest());
                CHECKS.due(name + ", records", 6, () -> x.records());
                CHECKS.due(name + ", watch", 1, () -> x.watch(2));
                CHECKS.due(name + ", no change of it", -1, () -> x.watched(3, 0, 4));
                CHECKS.due(name + ", no version of it", ARGUMENT, () -> x.tuples(4));
                CHECKS.due(name + ", the oldest stays", 2, () -> x.tuples(2));
                CHECKS.due(name + ", too old stays", STATE, () -> x.tuples(1));
                CHECKS.due(name + ", members", 7, () -> x.expand(3, 0, 0));
                CHECKS.due(name + ", the batch", STATE, () -> x.commit(-1));
            }
        }
    }

    private static void writtenOver() {
        CHECKS.sentence("its records are written over by the next one");
        for (int first = 1; first <= 5; first++) {
            for (int second = 1; second <= 5; second++) {
                RelationStore x = Stores.open(7);
                Stores.commits(x, 1);
                for (int i = 0; i < first; i++) {
                    x.change(true, 3, 0, 0, i, 0);
                }
                x.commit(first);
                for (int i = 0; i < second; i++) {
                    x.change(true, 2, 0, 0, 7 - i, 0);
                }
                int size = second;
                String name = second + " behind " + first + " that were cut";
                CHECKS.due(name, 2, () -> x.commit(-1));
                CHECKS.due(name + ", records", 3 + size, () -> x.records());
                CHECKS.due(name + ", changes", size, () -> x.watch(1));
                CHECKS.due(name + ", none of the first", 0, () -> x.expand(2, 3, 0));
                CHECKS.due(name + ", all of the second", size, () -> Integer.bitCount(x.expand(2, 2, 0)));
                CHECKS.due(name + ", its first change", 7, () -> x.watched(1, 0, 4));
                CHECKS.due(name + ", its last change", 8 - size, () -> x.watched(1, size - 1, 4));
                CHECKS.due(name + ", no change more", -1, () -> x.watched(1, size, 4));
                x.crash();
                CHECKS.due(name + ", tuples behind a crash", 1 + size, () -> x.tuples(2));
                Stores.fill(x, 1);
                CHECKS.due(name + ", next", 3, () -> x.commit(-1));
                CHECKS.due(name + ", tuples of the next", 1 + size, () -> x.tuples(3));
            }
        }
    }

    private static void cutOftenerThanTheLogIsLong() {
        RelationStore x = Stores.open(7);
        Stores.commits(x, 1);
        for (int i = 0; i < 60; i++) {
            Stores.fill(x, 5);
            CHECKS.due("cut " + i, -1, () -> x.commit(5));
        }
        Stores.fill(x, 5);
        CHECKS.due("sixty cuts take no room", 2, () -> x.commit(-1));
        CHECKS.due("nor records", 8, () -> x.records());
        RelationStore full = Stores.open(7);
        Stores.records(full, 114);
        Stores.fill(full, 5);
        CHECKS.due("cut at the log's last place", -1, () -> full.commit(5));
        Stores.fill(full, 5);
        CHECKS.due("the log's last places", 20, () -> full.commit(6));
        CHECKS.due("the log is full", 120, () -> full.records());
    }

    private static void crashBehindTheMark() {
        CHECKS.sentence("if it is just that number, there is a crash behind the mark (the answer is the token all"
                + " the same)");
        for (int changes = 1; changes <= 5; changes++) {
            RelationStore x = Stores.open(7);
            Stores.commits(x, 1);
            Stores.fill(x, changes);
            int size = changes;
            CHECKS.due("just " + changes + " and the mark", 2, () -> x.commit(size + 1));
            CHECKS.due("latest", 2, () -> x.latest());
            CHECKS.due("records", 3 + size, () -> x.records());
            CHECKS.due("tuples", size, () -> x.tuples(2));
            CHECKS.due("members", (1 << size) - 1, () -> x.expand(2, 0, 0));
            CHECKS.due("changes", size, () -> x.watch(1));
            CHECKS.due("the batch is empty", STATE, () -> x.commit(size + 1));
        }
    }

    private static void crashes() {
        CHECKS.sentence("A CRASH: the batch is empty; all versions are what the log says.");
        for (int changes = 0; changes <= 5; changes++) {
            RelationStore x = Stores.open(2);
            Stores.commits(x, 4);
            Stores.fill(x, changes);
            for (int times = 0; times < 2; times++) {
                x.crash();
                CHECKS.due("latest", 4, () -> x.latest());
                CHECKS.due("records", 8, () -> x.records());
                CHECKS.due("the oldest", 2, () -> x.tuples(2));
                CHECKS.due("too old", STATE, () -> x.tuples(1));
                CHECKS.due("members of the latest", 15, () -> x.expand(4, 0, 0));
                CHECKS.due("changes", 2, () -> x.watch(2));
                CHECKS.due("commit", STATE, () -> x.commit(-1));
            }
            CHECKS.due("the batch begins anew", 1, () -> x.change(true, 0, 0, 0, 7, 0));
            CHECKS.due("the next version", 5, () -> x.commit(-1));
        }
        RelationStore fresh = new RelationStore(0);
        fresh.crash();
        CHECKS.due("a new object, latest", 0, () -> fresh.latest());
        CHECKS.due("a new object, records", 0, () -> fresh.records());
        CHECKS.due("a new object, tuples", 0, () -> fresh.tuples(0));
        CHECKS.due("a new object, relation", 0, () -> fresh.relation(0, true, 0, 0));
        CHECKS.due("a text", true, () -> fresh.type('c'));
        fresh.crash();
        CHECKS.due("the text's other half", true, () -> fresh.type('0'));
        CHECKS.due("the text stays", true, () -> fresh.sound(0));
        CHECKS.due("accept", 1, () -> fresh.accept());
        fresh.crash();
        CHECKS.due("it stays accepted", UnsupportedOperationException.class, () -> fresh.accept());
        crashesInCommits();
    }

    /** The batch and the versions are all that the sentence names, so nothing else is lost. */
    private static void crashesInCommits() {
        for (int most = 0; most <= 2; most++) {
            int written = most;
            RelationStore x = new RelationStore(0);
            x.relation(0, true, 0, 0);
            Checks.relation(x, 0, true, 0, 0, "T-c0");
            x.accept();
            Checks.comes(x, 0, 1, 0, 3, 0);
            CHECKS.due("commit cut at " + most, most == 2 ? 1 : -1, () -> x.commit(written));
            CHECKS.due("it stays accepted", UnsupportedOperationException.class, () -> x.accept());
            CHECKS.due("no relation more", -1, () -> x.relation(0, true, 0, 0));
            CHECKS.due("no character more", false, () -> x.type('T'));
            CHECKS.due("the text is a rule still", true, () -> x.sound(1));
            Checks.comes(x, 0, 0, 0, 2, 0);
            Checks.comes(x, 0, 1, 0, 2, 0);
            Checks.comes(x, 0, 1, 0, 4, 0);
            int token = x.commit(-1);
            CHECKS.due("the rule is as it was", most == 2 ? 24 : 16, () -> x.expand(token, 0, 1));
        }
    }

    private static void versionZero() {
        CHECKS.sentence("Version 0 is empty.");
        RelationStore fresh = new RelationStore(7);
        CHECKS.due("tuples of a new object", 0, () -> fresh.tuples(0));
        CHECKS.due("watch of a new object", 0, () -> fresh.watch(0));
        CHECKS.due("watched of a new object", -1, () -> fresh.watched(0, 0, 0));
        RelationStore x = Stores.open(7);
        for (int version = 0; version < 8; version++) {
            int latest = version;
            CHECKS.due("tuples of 0 when the latest is " + latest, 0, () -> x.tuples(0));
            CHECKS.due("members in 0 when the latest is " + latest, 0, () -> x.expand(0, 0, 0));
            CHECKS.due("check in 0 when the latest is " + latest, false, () -> x.check(0, 0, 0, 0));
            CHECKS.due("lookup in 0 when the latest is " + latest, 0, () -> x.lookup(0, 0, 0));
            CHECKS.due("nested in 0 when the latest is " + latest, false, () -> x.nested(0, 0, 0, 0, 0));
            CHECKS.due("changes since 0 when the latest is " + latest, latest, () -> x.watch(0));
            x.change(true, 0, 0, version == 0 ? 2 : 0, 0, 0);
            x.commit(-1);
        }
        CHECKS.due("eight kept, the latest is 8", STATE, () -> x.tuples(0));
    }

    private static void keptVersions() {
        CHECKS.sentence("the store keeps the last KEPT versions (the latest one included), and questions with the"
                + " token of an older one are TOO OLD");
        for (int kept = 1; kept <= 8; kept++) {
            for (int latest : new int[] {kept - 2, kept - 1, kept, kept + 1, 8, 9, 60}) {
                if (latest >= 0) {
                    dueTokens(kept, latest);
                }
            }
        }
    }

    private static void dueTokens(int kept, int latest) {
        RelationStore x = Stores.open(kept - 1);
        Stores.commits(x, latest);
        int[] tokens = {LOWEST, -1, 0, 1, latest - kept - 1, latest - kept, latest - kept + 1, latest - 1, latest, latest + 1,
            latest + 8, HIGHEST};
        for (int token : tokens) {
            Class<?> wrong = token < 0 || token > latest ? ARGUMENT : token <= latest - kept ? STATE : null;
            String name = kept + " kept, latest " + latest + ", token " + token;
            int size = Math.min(8, Math.max(0, token));
            int mask = (1 << size) - 1;
            CHECKS.due(name + ", tuples", dueOr(wrong, size), () -> x.tuples(token));
            CHECKS.due(name + ", check", dueOr(wrong, size > 0), () -> x.check(token, 0, 0, 0));
            CHECKS.due(name + ", expand", dueOr(wrong, mask), () -> x.expand(token, 0, 0));
            CHECKS.due(name + ", lookup", dueOr(wrong, size > 7 ? 1 : 0), () -> x.lookup(token, 0, 7));
            CHECKS.due(name + ", nested", dueOr(wrong, false), () -> x.nested(token, 0, 0, 0, 0));
            CHECKS.due(name + ", watch", dueOr(wrong, latest - token), () -> x.watch(token));
            CHECKS.due(name + ", watched", dueOr(wrong, token == latest ? -1 : token + 1), () -> x.watched(token, 0, 6));
        }
    }

    private static Object dueOr(Class<?> wrong, Object answer) {
        return wrong == null ? answer : wrong;
    }

    private static void tokensOfFirstVersions() {
        RelationStore x = Stores.open(0);
        CHECKS.due("one kept, version 0", 0, () -> x.tuples(0));
        CHECKS.due("one kept, version 1 is not there", ARGUMENT, () -> x.tuples(1));
        Stores.fill(x, 1);
        CHECKS.due("a batch makes no version", ARGUMENT, () -> x.tuples(1));
        CHECKS.due("a batch makes nothing too old", 0, () -> x.tuples(0));
        x.commit(-1);
        CHECKS.due("one kept, version 0 is too old", STATE, () -> x.tuples(0));
        CHECKS.due("one kept, version 1", 1, () -> x.tuples(1));
    }

    private static void tokensBehindACut() {
        RelationStore x = Stores.open(0);
        Stores.fill(x, 2);
        x.commit(2);
        CHECKS.due("a cut commit makes no version", ARGUMENT, () -> x.tuples(1));
        CHECKS.due("a cut commit makes nothing too old", 0, () -> x.tuples(0));
        Stores.fill(x, 2);
        x.commit(3);
        CHECKS.due("a commit with its mark does", STATE, () -> x.tuples(0));
        CHECKS.due("and has its version", 2, () -> x.tuples(1));
    }

    /** Sixty versions are all that the log has room for. */
    private static void allTokens() {
        CHECKS.sentence("TOKENS are the numbers of versions");
        RelationStore x = Stores.open(7);
        for (int version = 1; version <= 60; version++) {
            int token = version;
            CHECKS.due("no version " + token + " yet", ARGUMENT, () -> x.tuples(token));
            x.change(true, 0, 0, 0, 0, 0);
            CHECKS.due("commit " + token, token, () -> x.commit(-1));
            CHECKS.due("latest is " + token, token, () -> x.latest());
        }
        CHECKS.due("no version 61", ARGUMENT, () -> x.tuples(61));
        CHECKS.due("records of 60 versions", 120, () -> x.records());
        Stores.fill(x, 1);
        CHECKS.due("no room for version 61", STATE, () -> x.commit(-1));
    }

    /** Whatever is held for a kept version must not be that of one 8, 16 or 24 earlier. */
    private static void slotsOfVersions() {
        RelationStore x = Stores.open(7);
        for (int version = 1; version <= 33; version++) {
            int latest = version;
            x.change(version % 2 == 1, version % 4, 0, 0, version / 4 % 8, 0);
            x.commit(version % 3 == 0 ? 2 : -1);
            int[] sizes = sizes(latest);
            for (int token = Math.max(0, latest - 7); token <= latest; token += 7) {
                int asked = token;
                CHECKS.due("tuples of " + asked + " of " + latest, sizes[asked], () -> x.tuples(asked));
            }
        }
    }

    private static int[] sizes(int latest) {
        java.util.Set<Integer> there = new java.util.HashSet<>();
        int[] sizes = new int[latest + 1];
        for (int version = 1; version <= latest; version++) {
            int tuple = version % 4 * 8 + version / 4 % 8;
            if (version % 2 == 1) {
                there.add(tuple);
            } else {
                there.remove(tuple);
            }
            sizes[version] = there.size();
        }
        return sizes;
    }

    private static void lastCalls() {
        CHECKS.sentence("An object is used for at most 512 calls after it has been made");
        RelationStore x = new RelationStore(7);
        x.relation(0, true, 7, 1);
        x.accept();
        Stores.commits(x, 58);
        for (int call = 119; call <= 506; call++) {
            CHECKS.due("call " + call, 8, () -> x.tuples(58 - 7));
        }
        CHECKS.due("call 507", 1, () -> x.change(false, 0, 0, 0, 7, 0));
        CHECKS.due("call 508", 2, () -> x.change(true, 1, 0, 2, 0, 0));
        CHECKS.due("call 509", 59, () -> x.commit(-1));
        CHECKS.due("call 510", 127, () -> x.expand(59, 1, 0));
        CHECKS.due("call 511", 255, () -> x.expand(58, 0, 0));
        CHECKS.due("call 512", 59, () -> x.watched(58, 1, 6));
    }
}
