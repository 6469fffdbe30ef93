import java.util.ArrayList;
import java.util.HashMap;
import java.util.HashSet;
import java.util.List;
import java.util.Map;
import java.util.Set;
import java.util.TreeSet;

/**
 * The document read a second time, as plainly as it goes: versions are whole sets of tuples, rules are
 * worked out from their trees, and relations that need one another are worked out together.
 */
final class Model {
    private record Tuple(int object, int relation, int sort, int a, int s) { }

    private record Change(boolean comes, Tuple tuple, int version) { }

    private record Pair(int object, int relation) { }

    /** A part has no sides; an operator has two. */
    private record Tree(char kind, int t, int x, Tree first, Tree second) { }

    private static final class NoRule extends Exception {
        private static final long serialVersionUID = 1L;
    }

    private static final class Told {
        int namespace;
        boolean users;
        int objects;
        int usersets;
        String text = "";
        Tree rule;
        Set<Integer> needs = new TreeSet<>();
        Set<Integer> bars = new TreeSet<>();
    }

    private final int kept;
    private final List<Told> relations = new ArrayList<>();
    private boolean accepted;
    private final List<Change> batch = new ArrayList<>();
    private final List<Set<Tuple>> versions = new ArrayList<>();
    private final List<Change> history = new ArrayList<>();
    private int records;

    Model(int kept) {
        this.kept = Math.floorMod(kept, 8) + 1;
        versions.add(new HashSet<>());
    }

    int relation(int namespace, boolean users, int objects, int usersets) {
        if (accepted || relations.size() == 9 || namespace < 0 || namespace > 2) {
            return -1;
        }
        Told told = new Told();
        told.namespace = namespace;
        told.users = users;
        told.objects = objects;
        told.usersets = usersets;
        relations.add(told);
        return relations.size() - 1;
    }

    boolean type(char c) {
        if (relations.isEmpty() || accepted || relations.get(relations.size() - 1).text.length() == 24) {
            return false;
        }
        relations.get(relations.size() - 1).text += c;
        return true;
    }

    boolean sound(int relation) {
        return relation >= 0 && relation < relations.size() && tree(relation) != null;
    }

    private Tree tree(int relation) {
        Told told = relations.get(relation);
        try {
            return told.text.isEmpty() ? new Tree('T', 0, 0, null, null) : expression(told, told.text, 0);
        } catch (NoRule e) {
            return null;
        }
    }

    /** Splits at the last operator that stands in no brackets: all before it is its first side. */
    private Tree expression(Told own, String text, int depth) throws NoRule {
        if (depth > 5) {
            throw new NoRule();
        }
        int open = 0;
        for (int i = text.length() - 1; i >= 0; i--) {
            char c = text.charAt(i);
            open += c == ')' ? 1 : c == '(' ? -1 : 0;
            if (open < 0) {
                throw new NoRule();
            }
            if (open == 0 && "&|-".indexOf(c) >= 0) {
                return new Tree(c, 0, 0, expression(own, text.substring(0, i), depth),
                        part(own, text.substring(i + 1), depth));
            }
        }
        return part(own, text, depth);
    }

    private Tree part(Told own, String text, int depth) throws NoRule {
        if (text.equals("T")) {
            return new Tree('T', 0, 0, null, null);
        }
        if (text.matches("(?s)\\(.*\\)")) {
            return expression(own, text.substring(1, text.length() - 1), depth + 1);
        }
        boolean same = text.matches("c[0-9]");
        if (!same && !text.matches("f[0-9][0-9]")) {
            throw new NoRule();
        }
        int first = text.charAt(1) - '0';
        int last = text.charAt(text.length() - 1) - '0';
        if (first >= relations.size() || last >= relations.size() || relations.get(first).namespace != own.namespace) {
            throw new NoRule();
        }
        return new Tree(text.charAt(0), first, last, null, null);
    }

    int accept() {
        if (accepted || relations.isEmpty()) {
            throw new UnsupportedOperationException();
        }
        for (int r = 0; r < relations.size(); r++) {
            Told told = relations.get(r);
            told.rule = tree(r);
            if (told.rule == null) {
                throw new IllegalArgumentException();
            }
            told.needs.clear();
            told.bars.clear();
            findNeeds(told, told.rule, false);
        }
        for (int r = 0; r < relations.size(); r++) {
            for (int x : relations.get(r).bars) {
                if (neededBy(x).contains(r)) {
                    throw new IllegalStateException();
                }
            }
        }
        accepted = true;
        return relations.size();
    }

    private void findNeeds(Told told, Tree tree, boolean barred) {
        Set<Integer> found = new TreeSet<>();
        if (tree.first != null) {
            findNeeds(told, tree.first, barred);
            findNeeds(told, tree.second, barred || tree.kind == '-');
        } else if (tree.kind == 'T') {
            for (int s = 0; s < relations.size(); s++) {
                if ((told.usersets & 1 << s) != 0) {
                    found.add(s);
                }
            }
        } else {
            found.add(tree.t);
            found.add(tree.x);
        }
        told.needs.addAll(found);
        if (barred) {
            told.bars.addAll(found);
        }
    }

    /** What a relation needs in one or more steps. */
    private Set<Integer> neededBy(int relation) {
        Set<Integer> found = new TreeSet<>();
        List<Integer> open = new ArrayList<>(relations.get(relation).needs);
        while (!open.isEmpty()) {
            int next = open.remove(open.size() - 1);
            if (found.add(next)) {
                open.addAll(relations.get(next).needs);
            }
        }
        return found;
    }

    private boolean isPair(int object, int relation) {
        return object >= 0 && object <= 11 && relation >= 0 && relation < relations.size()
                && relations.get(relation).namespace == object / 4;
    }

    private boolean isTuple(Tuple t) {
        if (!isPair(t.object, t.relation)) {
            return false;
        }
        Told told = relations.get(t.relation);
        return switch (t.sort) {
            case 0 -> told.users && t.a >= 0 && t.a <= 7;
            case 1 -> t.a >= 0 && t.a <= 11 && (told.objects & 1 << t.a / 4) != 0;
            case 2 -> isPair(t.a, t.s) && (told.usersets & 1 << t.s) != 0;
            default -> false;
        };
    }

    int change(boolean comes, int object, int relation, int sort, int a, int s) {
        if (!accepted) {
            throw new UnsupportedOperationException();
        }
        Tuple tuple = new Tuple(object, relation, sort, a, sort == 2 ? s : 0);
        if (!isTuple(tuple)) {
            throw new IllegalArgumentException();
        }
        if (batch.size() == 5) {
            throw new IllegalStateException();
        }
        batch.add(new Change(comes, tuple, 0));
        return batch.size();
    }

    int commit(int most) {
        if (batch.isEmpty() || records + batch.size() + 1 > 120) {
            throw new IllegalStateException();
        }
        if (most >= 0 && most <= batch.size()) {
            batch.clear();
            return -1;
        }
        Set<Tuple> next = new HashSet<>(versions.get(latest()));
        for (Change change : batch) {
            if (change.comes) {
                next.add(change.tuple);
            } else {
                next.remove(change.tuple);
            }
            history.add(new Change(change.comes, change.tuple, latest() + 1));
        }
        records += batch.size() + 1;
        versions.add(next);
        batch.clear();
        return latest();
    }

    void crash() {
        batch.clear();
    }

    int latest() {
        return versions.size() - 1;
    }

    int records() {
        return records;
    }

    private void mayAsk(int token, boolean named) {
        if (token < 0 || token >= versions.size() || !named) {
            throw new IllegalArgumentException();
        }
        if (versions.size() - token > kept) {
            throw new IllegalStateException();
        }
    }

    int tuples(int token) {
        mayAsk(token, true);
        return versions.get(token).size();
    }

    boolean check(int token, int object, int relation, int user) {
        mayAsk(token, accepted && isPair(object, relation) && user >= 0 && user <= 7);
        return members(versions.get(token), object, relation).contains(user);
    }

    int expand(int token, int object, int relation) {
        mayAsk(token, accepted && isPair(object, relation));
        int mask = 0;
        for (int user : members(versions.get(token), object, relation)) {
            mask += 1 << user;
        }
        return mask;
    }

    int lookup(int token, int relation, int user) {
        mayAsk(token, accepted && relation >= 0 && relation < relations.size() && user >= 0 && user <= 7);
        int mask = 0;
        for (int i = 0; i < 4; i++) {
            int object = relations.get(relation).namespace * 4 + i;
            if (members(versions.get(token), object, relation).contains(user)) {
                mask += 1 << i;
            }
        }
        return mask;
    }

    boolean nested(int token, int object, int relation, int other, int s) {
        mayAsk(token, accepted && isPair(object, relation) && isPair(other, s));
        Set<Pair> found = new HashSet<>();
        List<Pair> open = new ArrayList<>();
        open.add(new Pair(object, relation));
        while (!open.isEmpty()) {
            Pair from = open.remove(open.size() - 1);
            for (Tuple t : versions.get(token)) {
                Pair to = new Pair(t.a, t.s);
                if (t.sort == 2 && t.object == from.object && t.relation == from.relation && found.add(to)) {
                    open.add(to);
                }
            }
        }
        return found.contains(new Pair(other, s));
    }

    int watch(int token) {
        mayAsk(token, true);
        return since(token).size();
    }

    private List<Change> since(int token) {
        List<Change> found = new ArrayList<>();
        for (Change change : history) {
            if (change.version > token) {
                found.add(change);
            }
        }
        return found;
    }

    int watched(int token, int k, int what) {
        mayAsk(token, true);
        List<Change> changes = since(token);
        if (k < 0 || k >= changes.size()) {
            return -1;
        }
        Change change = changes.get(k);
        Tuple tuple = change.tuple;
        return switch (what) {
            case 0 -> change.comes ? 1 : 0;
            case 1 -> tuple.object;
            case 2 -> tuple.relation;
            case 3 -> tuple.sort;
            case 4 -> tuple.a;
            case 5 -> tuple.s;
            case 6 -> change.version;
            default -> -1;
        };
    }

    private Set<Integer> members(Set<Tuple> version, int object, int relation) {
        Map<Pair, Set<Integer>> known = new HashMap<>();
        workOut(version, relation, known);
        return known.get(new Pair(object, relation));
    }

    /** All that is needed first, but for what needs this one too: that is worked out together with it. */
    private void workOut(Set<Tuple> version, int relation, Map<Pair, Set<Integer>> known) {
        if (known.containsKey(new Pair(relations.get(relation).namespace * 4, relation))) {
            return;
        }
        Set<Integer> together = new TreeSet<>(Set.of(relation));
        for (int x : neededBy(relation)) {
            if (neededBy(x).contains(relation)) {
                together.add(x);
            } else {
                workOut(version, x, known);
            }
        }
        for (int x : together) {
            for (int i = 0; i < 4; i++) {
                known.put(new Pair(relations.get(x).namespace * 4 + i, x), new TreeSet<>());
            }
        }
        boolean grows = true;
        while (grows) {
            grows = false;
            for (int x : together) {
                for (int i = 0; i < 4; i++) {
                    Pair pair = new Pair(relations.get(x).namespace * 4 + i, x);
                    grows |= known.get(pair).addAll(value(version, pair, relations.get(x).rule, known));
                }
            }
        }
    }

    private Set<Integer> value(Set<Tuple> version, Pair own, Tree tree, Map<Pair, Set<Integer>> known) {
        if (tree.first != null) {
            Set<Integer> found = new TreeSet<>(value(version, own, tree.first, known));
            Set<Integer> second = value(version, own, tree.second, known);
            if (tree.kind == '&') {
                found.retainAll(second);
            } else if (tree.kind == '|') {
                found.addAll(second);
            } else {
                found.removeAll(second);
            }
            return found;
        }
        if (tree.kind == 'c') {
            return known.get(new Pair(own.object, tree.x));
        }
        Set<Integer> found = new TreeSet<>();
        for (Tuple t : version) {
            if (t.object != own.object || t.relation != (tree.kind == 'T' ? own.relation : tree.t)) {
                continue;
            }
            if (tree.kind == 'T' && t.sort == 0) {
                found.add(t.a);
            } else if (tree.kind == 'T' && t.sort == 2) {
                found.addAll(known.get(new Pair(t.a, t.s)));
            } else if (tree.kind == 'f' && t.sort == 1 && t.a / 4 == relations.get(tree.x).namespace) {
                found.addAll(known.get(new Pair(t.a, tree.x)));
            }
        }
        return found;
    }
}
