import java.util.Arrays;
import java.util.function.Function;
import java.util.function.IntFunction;
import java.util.function.Supplier;

/**
 * What the edge tests share. Each of their tests is one sentence of the document that names a boundary case: of()
 * tells which, and what follows it makes objects of its own and holds the answers at that boundary.
 *
 * <p>Of a call that has to change nothing a twin is made that was never called: both are then read out to the end,
 * by calls that change them too, so that what no asking call tells (which LINE is PASSED, what is REFUSED, what the
 * VERSIONS hold, which NUMBER comes next) is held as well.
 */
final class Edge {
    static final Class<?> INDEX = IndexOutOfBoundsException.class;
    static final Class<?> ARGUMENT = IllegalArgumentException.class;
    static final Class<?> STATE = IllegalStateException.class;
    static final int MIN = Integer.MIN_VALUE;
    static final int MAX = Integer.MAX_VALUE;

    private static final String SIGNS = "abcdefgh 0123456789@,+-";

    private static String sentence = "";
    private static boolean isWrong = false;
    private static int sentences = 0;
    private static int wrong = 0;

    private Edge() {
    }

    /** Begins the test of a sentence. */
    static void of(String told) {
        close();
        sentence = told;
        isWrong = false;
        sentences++;
    }

    private static void close() {
        if (isWrong) {
            wrong++;
        }
        isWrong = false;
    }

    static void end(String test) {
        close();
        System.out.println(test + ": " + sentences + " sentences, " + wrong + " do not hold");
        if (wrong > 0) {
            System.exit(1);
        }
    }

    // ---- what is held

    static void due(Object want, Object got) {
        if (!String.valueOf(want).equals(String.valueOf(got))) {
            complain("answered " + got + ", due is " + want);
        }
    }

    /** The call answers so, and on the last object that can be told of too. */
    static void let(Object want, Supplier<Lineseam> made, Function<Lineseam, Object> call) {
        due(want, outcome(made.get(), call));
    }

    /** The call throws just this, and changes nothing. */
    static void refused(Class<?> want, Supplier<Lineseam> made, Function<Lineseam, Object> call) {
        unchanged("throws " + want.getSimpleName(), made, call);
    }

    /** The call is LET, but can't be done: -9, and nothing is changed. */
    static void cannot(Supplier<Lineseam> made, Function<Lineseam, Object> call) {
        unchanged(-9, made, call);
    }

    /** The call answers so, and changes nothing. */
    static void unchanged(Object want, Supplier<Lineseam> made, Function<Lineseam, Object> call) {
        Lineseam called = made.get();
        Lineseam twin = made.get();
        due(want, outcome(called, call));
        String got = readOut(called);
        String was = readOut(twin);
        if (!got.equals(was)) {
            complain("something is changed: " + got + ", it was " + was);
        }
    }

    /** The least and the most that are let answer so; one below, one above, and what is far off is refused. */
    static void bounds(Class<?> kind, Supplier<Lineseam> made, int least, Object dueLeast, int most, Object dueMost,
            IntFunction<Function<Lineseam, Object>> call) {
        let(dueLeast, made, call.apply(least));
        let(dueMost, made, call.apply(most));
        for (int off : new int[] {least - 1, most + 1, MIN, MAX}) {
            refused(kind, made, call.apply(off));
        }
    }

    /** TEXTS are 0 to 3: both are let, those beside them are not. */
    static void texts(Supplier<Lineseam> made, Object due0, Object due3, IntFunction<Function<Lineseam, Object>> call) {
        bounds(INDEX, made, 0, due0, 3, due3, call);
    }

    /** What a call answers, or what it throws; what the machine or the library throws is told as such. */
    static String outcome(Lineseam x, Function<Lineseam, Object> call) {
        try {
            return String.valueOf(call.apply(x));
        } catch (RuntimeException e) {
            StackTraceElement[] at = e.getStackTrace();
            boolean isOwn = at.length > 0 && at[0].getClassName().startsWith("Lineseam");
            boolean isNamed = Arrays.asList(INDEX, ARGUMENT, STATE).contains(e.getClass());
            return isOwn && isNamed ? "throws " + e.getClass().getSimpleName() : "the machine throws " + e;
        }
    }

    private static void complain(String what) {
        isWrong = true;
        StackTraceElement[] at = new Throwable().getStackTrace();
        int k = 0;
        while (k < at.length - 1 && at[k].getClassName().equals("Edge")) {
            k++;
        }
        System.out.println(sentence + " (" + at[k] + "): " + what);
    }

    // ---- objects

    static Lineseam with(String... rows) {
        Lineseam x = new Lineseam();
        for (int t = 0; t < rows.length; t++) {
            if (rows[t] != null) {
                fill(x, t, rows[t]);
            }
        }
        return x;
    }

    /** Types a DRAFT anew. */
    static Lineseam type(Lineseam x, String draft) {
        x.erase(12);
        for (char c : draft.toCharArray()) {
            x.sign(SIGNS.indexOf(c));
        }
        return x;
    }

    /** Puts LINES behind those of a TEXT, told with "|" between two; each has 12 signs at most. */
    static void fill(Lineseam x, int text, String rows) {
        String was = x.draft();
        for (String row : rows.split("\\|", -1)) {
            if (row.length() == 1 && row.charAt(0) >= 'a' && row.charAt(0) <= 'z') {
                x.add(text, x.house(text), row.charAt(0) - 'a');
            } else {
                type(x, row);
                x.put(text, x.house(text));
            }
        }
        type(x, was);
    }

    /** A TEXT becomes these LINES. */
    static void set(Lineseam x, int text, String rows) {
        x.cut(text, 0, x.house(text));
        fill(x, text, rows);
    }

    /** So many WORDS behind those of a TEXT, from "a" on, and from "a" again behind "z". */
    static void words(Lineseam x, int text, int many) {
        for (int k = 0; k < many; k++) {
            x.add(text, x.house(text), k % 26);
        }
    }

    /** Nothing was called. */
    static Lineseam empty() {
        return new Lineseam();
    }

    /** There is some of everything: a CURSOR behind a PASSED LINE, a PATCH, REFUSED, QUARRELS, VERSIONS. */
    static Lineseam busy() {
        Lineseam x = with("a|b|c|d|e", "a|x|c|y|e", "a|z|c|q|e|f", "a|b");
        x.keep(0);
        x.keep(1);
        x.keep(2);
        x.patch(0, 1, 0);
        x.lay(2, 0);
        x.lay(3, 0);
        x.patch(0, 1, 1);
        x.join(3, 0, 1, 2, 0);
        x.patch(0, 2, 0);
        type(x, "a 0");
        x.knock();
        x.walk(1);
        x.forth();
        x.forth();
        x.forth();
        x.back();
        return x;
    }

    /** What can be full is full: the TEXT 0 (the CURSOR in it, a LINE PASSED), the DRAFT, the VERSIONS. */
    static Lineseam full() {
        return filled(30, "abcdefgh 012", 8);
    }

    /** Each takes one more: 29 LINES, 11 signs, 7 VERSIONS. */
    static Lineseam almostFull() {
        return filled(29, "abcdefgh 01", 7);
    }

    private static Lineseam filled(int lines, String draft, int versions) {
        Lineseam x = new Lineseam();
        words(x, 0, lines);
        type(x, draft);
        for (int v = 0; v < versions; v++) {
            x.keep(v >= 6 ? 0 : 1);
        }
        x.walk(0);
        x.forth();
        return x;
    }

    // ---- all that there is of an object; it is another one behind it

    static String readOut(Lineseam x) {
        StringBuilder all = new StringBuilder();
        all.append(x.digest()).append(" draft ").append(x.draft());
        for (int what = 0; what < 10; what++) {
            all.append(' ').append(x.house(what));
        }
        for (int t = 0; t < 4; t++) {
            all.append(" text ").append(x.whole(t));
        }
        all.append(" patch").append(hunks(x));
        all.append(" cursor ").append(x.cursor(0)).append(' ').append(x.cursor(1)).append(' ').append(x.cursor(2));
        if (x.cursor(0) >= 0) {
            int text = x.cursor(0);
            all.append(" strike ").append(x.strike()).append(' ').append(x.whole(text));
        }
        x.again();
        all.append(" refused").append(hunks(x));
        for (int v = 0; v < x.house(8); v++) {
            x.asOf(0, v);
            all.append(" version ").append(x.whole(0));
        }
        x.cut(0, 0, x.house(0));
        type(x, "-+-+-+-+-+-+");
        all.append(" next ").append(x.put(0, 0));
        return all.toString();
    }

    private static String hunks(Lineseam x) {
        StringBuilder all = new StringBuilder();
        for (int h = 0; h < x.house(5); h++) {
            all.append(' ');
            for (int what = 0; what < 5; what++) {
                all.append(x.ofHunk(h, what)).append(',');
            }
            all.append(x.hunk(h));
        }
        return all.toString();
    }
}
