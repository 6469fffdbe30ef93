/** Compares answers with those that are due, and counts the wrong ones. */
final class Checks {
    /** A call of the program: its answer, or the exception that it throws. */
    interface Call {
        Object make();
    }

    private int wrong = 0;
    private int made = 0;
    private String sentence = "";

    /** What a call answers; the exception's class, if it throws. */
    static Object answer(Call call) {
        try {
            return call.make();
        } catch (RuntimeException e) {
            return e.getClass();
        }
    }

    /** The document's sentence that the answers which follow are due by. */
    void sentence(String words) {
        sentence = "[" + words + "] ";
    }

    void due(String what, Object want, Call call) {
        Object got = answer(call);
        made++;
        if (!want.equals(got)) {
            wrong++;
            System.out.println(sentence + what + " answered " + got + ", due is " + want);
        }
    }

    void end() {
        System.out.println(made + " answers, " + wrong + " of them wrong");
        if (wrong != 0) {
            System.exit(1);
        }
    }

    static void typeAll(RelationStore store, String text) {
        for (char c : text.toCharArray()) {
            store.type(c);
        }
    }

    /** A new relation with a text. */
    static int relation(RelationStore store, int namespace, boolean users, int objects, int usersets, String text) {
        int number = store.relation(namespace, users, objects, usersets);
        typeAll(store, text);
        return number;
    }

    /** Puts a tuple that comes into the batch. */
    static void comes(RelationStore store, int object, int relation, int sort, int a, int s) {
        store.change(true, object, relation, sort, a, s);
    }
}
