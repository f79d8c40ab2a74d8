/** What the tests share: to compare an answer with the one that is due, and to see to what a call throws. */
final class Check {
    static final Class<?> INDEX = IndexOutOfBoundsException.class;
    static final Class<?> ARGUMENT = IllegalArgumentException.class;
    static final Class<?> STATE = IllegalStateException.class;

    private static int wrong = 0;
    private static int checks = 0;
    private static String where = "";

    interface Call {
        Object answer();
    }

    private Check() {
    }

    static void at(String place) {
        where = place;
    }

    static void due(Object want, Object got) {
        checks++;
        if (!String.valueOf(want).equals(String.valueOf(got))) {
            wrong++;
            System.out.println(where + ", check " + checks + ": answered " + got + ", due is " + want
                    + " (" + new Throwable().getStackTrace()[1] + ")");
        }
    }

    /** The call has to throw just this class, none below it, and to change nothing that digest() tells of. */
    static void refused(Class<?> want, Lineseam x, Call call) {
        checks++;
        long before = x.digest();
        Object got;
        try {
            got = call.answer();
        } catch (RuntimeException e) {
            got = e.getClass();
        }
        if (want != got || x.digest() != before) {
            wrong++;
            System.out.println(where + ", check " + checks + ": answered " + got + ", due is " + want
                    + (x.digest() != before ? ", and something is changed" : "")
                    + " (" + new Throwable().getStackTrace()[1] + ")");
        }
    }

    static void end(String test) {
        System.out.println(test + ": " + checks + " checks, " + wrong + " wrong");
        if (wrong > 0) {
            System.exit(1);
        }
    }

    /** Types a draft anew. */
    static void type(Lineseam x, String draft) {
        x.erase(99);
        for (char c : draft.toCharArray()) {
            x.sign("abcdefgh 0123456789@,+-".indexOf(c));
        }
    }

    /** Puts LINES behind those of a TEXT, told with "|" between two; they may have 12 signs at most. */
    static void fill(Lineseam x, int text, String rows) {
        String was = x.draft();
        for (String row : rows.split("\\|", -1)) {
            if (row.length() == 1 && row.charAt(0) >= 'a' && row.charAt(0) <= 'z') {
                x.add(text, x.house(text), row.charAt(0) - 'a');
            } else {
                type(x, row);
                x.put(text, x.house(text));
            }
        }
        type(x, was);
    }

    /** A TEXT becomes these LINES. */
    static void set(Lineseam x, int text, String rows) {
        x.cut(text, 0, x.house(text));
        fill(x, text, rows);
    }
}
