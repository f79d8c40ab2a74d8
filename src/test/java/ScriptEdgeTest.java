import java.util.function.Supplier;

/** Section 2 and promises 21 to 25: a test for each sentence that names a boundary case. */
public final class ScriptEdgeTest {
    private ScriptEdgeTest() {
    }

    public static void main(String[] args) {
        steps();
        longest();
        ofLines();
        likeness();
        blocks();
        severalBlocks();
        script();
        ofScript();
        within();
        moves();
        ofMove();
        Edge.end("ScriptEdgeTest");
    }

    private static Supplier<Lineseam> two(String first, String second) {
        return () -> Edge.with(first, second);
    }

    private static void exact(String want, String first, String second) {
        Edge.unchanged(want, two(first, second), x -> x.script(0, 1, false));
    }

    private static void loose(String want, String first, String second) {
        Edge.unchanged(want, two(first, second), x -> x.script(0, 1, true));
    }

    /** 30 LINES in the TEXT 0, none like another one. */
    private static Lineseam thirty() {
        Lineseam x = new Lineseam();
        Edge.words(x, 0, 26);
        for (int k = 0; k < 4; k++) {
            x.sign(9);
            x.put(0, 26 + k);
        }
        return x;
    }

    /** 30 LINES in the TEXT 0 and 30 in the TEXT 1, none of them in the other one. */
    private static Lineseam unlike() {
        Lineseam x = thirty();
        for (int k = 0; k < 30; k++) {
            Edge.type(x, "@" + "-".repeat(k % 5));
            x.put(1, k);
        }
        return x;
    }

    /** The TEXT 1 has the first 15 of 30 LINES behind the others. */
    private static Lineseam turned() {
        Lineseam x = thirty();
        x.copy(1, 0);
        x.carry(1, 0, 15);
        return x;
    }

    /** The TEXT 1 has the 30 LINES from the last to the first. */
    private static Lineseam backwards() {
        Lineseam x = thirty();
        x.copy(1, 0);
        for (int place = 28; place >= 0; place--) {
            x.carry(1, place, place + 1);
        }
        return x;
    }

    // ---- section 2

    private static void steps() {
        Edge.of("2 till both have none: no step, if there is no LINE at all");
        Edge.unchanged("", Edge::empty, x -> x.script(0, 1, false));
        Edge.unchanged("", Edge::empty, x -> x.script(0, 1, true));

        Edge.of("2 they may be the same: all STAY");
        exact("=", "a", "a");
        Edge.unchanged("===", two("a|b|a", ""), x -> x.script(0, 0, false));
        Edge.unchanged("", Edge::empty, x -> x.script(2, 2, false));
        Edge.unchanged("=".repeat(30), Edge::full, x -> x.script(0, 0, false));

        Edge.of("2 the second has none at j: each LINE goes OUT");
        Edge.unchanged("--", two("a|b", null), x -> x.script(0, 1, false));
        Edge.unchanged("-".repeat(30), Edge::full, x -> x.script(0, 1, false));
        exact("==--", "a|b|c|d", "a|b");

        Edge.of("2 the first has none at i: each LINE comes IN");
        Edge.unchanged("++", two("a|b", null), x -> x.script(1, 0, false));
        Edge.unchanged("+".repeat(30), Edge::full, x -> x.script(1, 0, false));
        exact("==++", "a|b", "a|b|c|d");

        Edge.of("2 if both are equal, they STAY: also where another pair would do as well");
        exact("=-=", "a|a|b", "a|b");
        exact("=+=", "a|b", "a|a|b");
        exact("==-", "a|a|a", "a|a");

        Edge.of("2 30 LINES and 30 that are none of them: 60 steps, first all OUT");
        Edge.unchanged("-".repeat(30) + "+".repeat(30), ScriptEdgeTest::unlike, x -> x.script(0, 1, false));
        Edge.unchanged("-".repeat(30) + "+".repeat(30), ScriptEdgeTest::unlike, x -> x.script(1, 0, false));
        Edge.unchanged(60, ScriptEdgeTest::unlike, x -> x.ofScript(0, 1, false, 3));

        Edge.of("2 LOOSE: LIKE LOOSELY one by one, EXACT: equal");
        loose("=", " a", "a ");
        exact("-+", " a", "a ");
        loose("=+=", "a|b", "a | a|b");
        exact("-++=", "a|b", "a | a|b");

        Edge.of("2 LINES without signs are equal LINES");
        exact("==", "|", "|");
        exact("=-", "|a", "");
        exact("+=", "", "a|");
    }

    private static void longest() {
        Edge.of("2 LONGEST of i + 1 and j no less than LONGEST of i and j + 1: if equal, the LINE goes OUT");
        exact("-+", "a", "b");
        exact("-=+", "a|b", "b|a");
        exact("-+=", "a|c", "b|c");

        Edge.of("2 LONGEST of i + 1 and j one less: the LINE of the second comes IN");
        exact("+=", "a", "b|a");
        exact("+==-", "a|b|c", "c|a|b");

        Edge.of("2 LONGEST of i + 1 and j one more: the LINE goes OUT");
        exact("-==+", "c|a|b", "a|b|c");
        exact("--==++", "c|d|a|b", "a|b|d|c");

        Edge.of("2 LONGEST counts in order, LINES between do not matter, LINES twice count twice");
        exact("=+=+=", "a|b|a", "a|c|b|c|a");
        exact("+==-+=", "a|a|b|c", "b|a|a|d|c");
    }

    private static void ofLines() {
        Edge.of("2 the SCRIPT of two LINES goes by their signs: a LINE without signs, and both without");
        Edge.unchanged("", two("", ""), x -> x.within(0, 0, 1, 0));
        Edge.unchanged("---", two("abc", ""), x -> x.within(0, 0, 1, 0));
        Edge.unchanged("+++", two("abc", ""), x -> x.within(1, 0, 0, 0));

        Edge.of("2 the SCRIPT of two LINES is EXACT: blanks are signs");
        Edge.unchanged("=-=", two("a b", "ab"), x -> x.within(0, 0, 1, 0));
        Edge.unchanged("--", two("  ", ""), x -> x.within(0, 0, 1, 0));

        Edge.of("2 the SCRIPT of two LINES: likewise OUT first, if as good");
        Edge.unchanged("-=+", two("ab", "ba"), x -> x.within(0, 0, 1, 0));
        Edge.unchanged("-+", two("a", "b"), x -> x.within(0, 0, 1, 0));

        Edge.of("2 the SCRIPT of two LINES of 12 signs, and of 16");
        Edge.unchanged("=".repeat(12), two("abcdefgh 012", "abcdefgh 012"), x -> x.within(0, 0, 1, 0));
        Edge.unchanged("=".repeat(11) + "-+", two("abcdefgh 012", "abcdefgh 013"), x -> x.within(0, 0, 1, 0));
        Edge.unchanged("+".repeat(4) + "=".repeat(12), ScriptEdgeTest::sixteen, x -> x.within(0, 0, 1, 0));
        Edge.unchanged("=".repeat(16), ScriptEdgeTest::sixteen, x -> x.within(1, 0, 1, 0));
    }

    /** The TEXT 1 has a LINE of 16 signs, the TEXT 0 that of which it was made. */
    private static Lineseam sixteen() {
        Lineseam x = Edge.with("abcdefgh 012");
        x.copy(1, 0);
        for (int k = 0; k < 4; k++) {
            x.patch(3, 1, 0);
            x.write(1);
            x.cut(1, 0, 1);
        }
        return x;
    }

    private static void likeness(int want, String first, String second) {
        Edge.unchanged(want, two(first, second), x -> x.ofScript(0, 1, false, 4));
    }

    private static void likeness() {
        Edge.of("2 LIKENESS: 1000 without any LINE");
        Edge.unchanged(1000, Edge::empty, x -> x.ofScript(0, 1, false, 4));
        Edge.unchanged(1000, Edge::empty, x -> x.ofScript(3, 3, true, 4));

        Edge.of("2 LIKENESS: 1000, if all STAY, 0, if none does, or one TEXT has no LINES");
        likeness(1000, "a|b", "a|b");
        likeness(0, "a|b", "c|d");
        Edge.unchanged(0, two("a", null), x -> x.ofScript(0, 1, false, 4));
        Edge.unchanged(0, two("a", null), x -> x.ofScript(1, 0, false, 4));
        Edge.unchanged(1000, Edge::full, x -> x.ofScript(0, 0, true, 4));

        Edge.of("2 LIKENESS: divided towards 0");
        likeness(666, "a|b", "a");
        likeness(400, "a|b", "a|c|d");
        likeness(285, "a|b|c", "a|d|e|f");
        likeness(857, "a|b|c", "a|b|c|d");

        Edge.of("2 LIKENESS by how many STAY in that SCRIPT, LOOSE or EXACT");
        Edge.unchanged(500, two("a|b ", "a|b"), x -> x.ofScript(0, 1, false, 4));
        Edge.unchanged(1000, two("a|b ", "a|b"), x -> x.ofScript(0, 1, true, 4));
    }

    private static String moved(Lineseam x, int first, int second) {
        StringBuilder all = new StringBuilder();
        for (int m = 0; m < x.moves(first, second); m++) {
            all.append(m > 0 ? " / " : "").append(x.ofMove(first, second, m, 0)).append(' ')
                    .append(x.ofMove(first, second, m, 1)).append(' ').append(x.ofMove(first, second, m, 2));
        }
        return all.toString();
    }

    private static void moves(String want, String first, String second) {
        Edge.unchanged(want, two(first, second), x -> moved(x, 0, 1));
    }

    private static void blocks() {
        Edge.of("2 a BLOCK is k LINES, 1 or more: a single one is a MOVE");
        moves("0 1 1", "a|b", "b|a");

        Edge.of("2 that all go OUT, and that all come IN: LINES that STAY are in no BLOCK");
        moves("", "a|b|c", "a|b|c");
        moves("", "a|b", "a|c|b");
        moves("0 4 1", "a|x|y|z", "x|y|z|b|a");

        Edge.of("2 one behind the other: a LINE that STAYS between parts them");
        moves("0 3 1 / 2 4 1", "a|x|b|y|z", "x|y|z|a|b");

        Edge.of("2 one behind the other in both: a LINE between in the second alone parts them too");
        moves("0 3 1 / 1 5 1", "a|b|x|y|z", "x|y|z|a|c|b");

        Edge.of("2 equal one by one, by the EXACT SCRIPT: not LIKE LOOSELY");
        moves("", "a b|x", "x|ab");

        Edge.of("2 till there is none: no MOVE of TEXTS without LINES, or of one with itself");
        Edge.unchanged(0, Edge::empty, x -> x.moves(0, 1));
        Edge.unchanged(0, Edge::full, x -> x.moves(0, 0));
        Edge.unchanged(0, Edge::full, x -> x.moves(0, 1));
        Edge.unchanged(0, Edge::full, x -> x.moves(1, 0));

        Edge.of("2 a BLOCK goes up to the last LINE of both TEXTS, and from the first one");
        moves("0 4 3", "a|b|c|w|x|y|z", "w|x|y|z|a|b|c");
        moves("4 0 3", "w|x|y|z|a|b|c", "a|b|c|w|x|y|z");
        Edge.unchanged("0 15 15", ScriptEdgeTest::turned, x -> moved(x, 0, 1));
    }

    private static void severalBlocks() {
        Edge.of("2 that one with the greatest k is a MOVE first, though others stand ahead of it");
        moves("1 4 3 / 0 7 1", "p|a|b|q|w|x|y|z", "w|x|y|z|a|b|q|p");

        Edge.of("2 of several with the smallest i");
        moves("0 5 1 / 1 4 1", "a|b|x|y|z", "x|y|z|c|b|a");

        Edge.of("2 then the smallest j");
        moves("0 3 1", "a|x|y|z", "x|y|z|a|b|a");

        Edge.of("2 its LINES are in no other BLOCK any more");
        moves("0 3 1", "a|x|y|z", "x|y|z|a|a");
        moves("0 3 1", "a|a|x|y|z", "x|y|z|a");
        moves("1 4 2", "b|a|b|w|x|y|z", "w|x|y|z|a|b");
        moves("0 5 2", "a|b|w|x|y|z", "w|x|y|z|b|a|b");
        moves("0 6 2 / 2 10 1", "a|b|c|v|w|x|y|z|u", "v|w|x|y|z|u|a|b|q|b|c");

        Edge.of("2 and part those around them");
        moves("1 6 3 / 0 9 1 / 4 10 1", "a|b|c|d|e|v|w|x|y|z|u", "v|w|x|y|z|u|b|c|d|a|e");

        Edge.of("2 MOVES are numbered from 0 as they are found, up to 29 of them");
        Lineseam x = backwards();
        Edge.due("-".repeat(29) + "=" + "+".repeat(29), x.script(0, 1, false));
        Edge.due(29, x.moves(0, 1));
        for (int m = 0; m < 29; m++) {
            Edge.due(m + " " + (29 - m) + " 1",
                    x.ofMove(0, 1, m, 0) + " " + x.ofMove(0, 1, m, 1) + " " + x.ofMove(0, 1, m, 2));
        }
        Edge.due("throws IndexOutOfBoundsException", Edge.outcome(x, y -> y.ofMove(0, 1, 29, 0)));
    }

    // ---- promises 21 to 25

    private static void script() {
        Edge.of("P21 IndexOutOfBoundsException if there is no such TEXT (the first)");
        Edge.texts(Edge::busy, "=====", "=-+=-+=-", t -> x -> x.script(t, 0, false));
        Edge.texts(Edge::busy, "=====", "=-+=-+=-", t -> x -> x.script(t, 0, true));

        Edge.of("P21 IndexOutOfBoundsException if there is no such TEXT (the second)");
        Edge.texts(Edge::busy, "=====", "=-+=-+=+", t -> x -> x.script(0, t, false));
        Edge.texts(Edge::busy, "=====", "=-+=-+=+", t -> x -> x.script(0, t, true));
    }

    private static void ofScript() {
        Edge.of("P22 IndexOutOfBoundsException if there is no such TEXT (the first)");
        Edge.texts(Edge::busy, 5, 3, t -> x -> x.ofScript(t, 0, false, 0));

        Edge.of("P22 IndexOutOfBoundsException if there is no such TEXT (the second)");
        Edge.texts(Edge::busy, 5, 3, t -> x -> x.ofScript(0, t, true, 0));

        Edge.of("P22 IllegalArgumentException if what is not 0 to 4");
        Edge.bounds(Edge.ARGUMENT, Edge::busy, 0, 3, 4, 545, w -> x -> x.ofScript(0, 3, false, w));
        Edge.bounds(Edge.ARGUMENT, Edge::empty, 0, 0, 4, 1000, w -> x -> x.ofScript(0, 3, true, w));

        Edge.of("P22 of both exceptions the IndexOutOfBoundsException is thrown");
        Edge.refused(Edge.INDEX, Edge::busy, x -> x.ofScript(4, 0, false, 5));
        Edge.refused(Edge.INDEX, Edge::busy, x -> x.ofScript(0, -1, false, -1));

        Edge.of("P22 the least number of single LINES: 0 of the same, and (LIKE LOOSELY) of one with other blanks");
        Edge.unchanged(0, two("a|b", "a|b"), x -> x.ofScript(0, 1, false, 3));
        Edge.unchanged(0, two("a |b", "a|  b"), x -> x.ofScript(0, 1, true, 3));
        Edge.unchanged(4, two("a |b", "a|  b"), x -> x.ofScript(0, 1, false, 3));

        Edge.of("P22 0, 1 and 2 of TEXTS of which one has no LINES");
        Edge.unchanged("0 30 0", Edge::full, x -> counts(x, 0, 1));
        Edge.unchanged("0 0 30", Edge::full, x -> counts(x, 1, 0));
        Edge.unchanged("30 0 0", Edge::full, x -> counts(x, 0, 0));
    }

    private static String counts(Lineseam x, int first, int second) {
        return x.ofScript(first, second, false, 0) + " " + x.ofScript(first, second, false, 1) + " "
                + x.ofScript(first, second, false, 2);
    }

    private static void within() {
        Edge.of("P23 IndexOutOfBoundsException if there is no such TEXT (the first)");
        Edge.texts(Edge::busy, "=", "=", t -> x -> x.within(t, 0, 0, 0));

        Edge.of("P23 IndexOutOfBoundsException if there is no such TEXT (the second)");
        Edge.texts(Edge::busy, "=", "=", t -> x -> x.within(0, 0, t, 0));

        Edge.of("P23 IndexOutOfBoundsException if there is no such LINE (the first)");
        Edge.bounds(Edge.INDEX, Edge::busy, 0, "=", 4, "-+", p -> x -> x.within(0, p, 1, 0));
        Edge.bounds(Edge.INDEX, Edge::full, 0, "=", 29, "-+", p -> x -> x.within(0, p, 0, 0));
        Edge.refused(Edge.INDEX, Edge::full, x -> x.within(1, 0, 0, 0));

        Edge.of("P23 IndexOutOfBoundsException if there is no such LINE (the second)");
        Edge.bounds(Edge.INDEX, Edge::busy, 0, "=", 5, "-+", p -> x -> x.within(0, 0, 2, p));
        Edge.bounds(Edge.INDEX, Edge::full, 0, "=", 29, "-+", p -> x -> x.within(0, 0, 0, p));
        Edge.refused(Edge.INDEX, Edge::full, x -> x.within(0, 0, 1, 0));

        Edge.of("P23 one call behind the other: none has signs of the one ahead");
        Edge.let("===++ - ==", two("abc|a", "abcde||ac"), x -> x.within(0, 0, 1, 0) + " " + x.within(0, 1, 1, 1) + " "
                + x.within(1, 2, 1, 2));

        Edge.of("P23 the PLACE is one of its own TEXT, not of the other one");
        Edge.refused(Edge.INDEX, Edge::busy, x -> x.within(0, 5, 2, 5));
        Edge.let("-+", Edge::busy, x -> x.within(2, 5, 0, 4));
    }

    private static void moves() {
        Edge.of("P24 IndexOutOfBoundsException if there is no such TEXT (the first)");
        Edge.texts(Edge::busy, 0, 0, t -> x -> x.moves(t, 0));

        Edge.of("P24 IndexOutOfBoundsException if there is no such TEXT (the second)");
        Edge.texts(Edge::busy, 0, 0, t -> x -> x.moves(0, t));
    }

    private static void ofMove() {
        Supplier<Lineseam> made = two("p|a|b|q|w|x|y|z", "w|x|y|z|a|b|q|p");

        Edge.of("P25 IndexOutOfBoundsException if there is no such TEXT (the first)");
        Edge.texts(() -> Edge.with("a|x|y", "x|y|a|b", null, "x|a|y"), 0, 1, t -> x -> x.ofMove(t, 1, 0, 0));

        Edge.of("P25 IndexOutOfBoundsException if there is no such TEXT (the second)");
        Edge.texts(() -> Edge.with("a|x|y", "x|y|a|b", null, "x|a|y"), 2, 1, t -> x -> x.ofMove(1, t, 0, 0));

        Edge.of("P25 IndexOutOfBoundsException if there is no such MOVE");
        Edge.bounds(Edge.INDEX, made, 0, 1, 1, 0, m -> x -> x.ofMove(0, 1, m, 0));
        Edge.refused(Edge.INDEX, Edge::empty, x -> x.ofMove(0, 1, 0, 0));
        Edge.refused(Edge.INDEX, Edge::full, x -> x.ofMove(0, 0, 0, 0));

        Edge.of("P25 IllegalArgumentException if what is not 0 to 2");
        Edge.bounds(Edge.ARGUMENT, made, 0, 1, 2, 3, w -> x -> x.ofMove(0, 1, 0, w));
        Edge.bounds(Edge.ARGUMENT, made, 0, 0, 2, 1, w -> x -> x.ofMove(0, 1, 1, w));

        Edge.of("P25 of both exceptions the IndexOutOfBoundsException is thrown");
        Edge.refused(Edge.INDEX, made, x -> x.ofMove(4, 1, 0, 3));
        Edge.refused(Edge.INDEX, made, x -> x.ofMove(0, 4, 0, -1));
        Edge.refused(Edge.INDEX, made, x -> x.ofMove(0, 1, 2, 3));
        Edge.refused(Edge.INDEX, Edge::empty, x -> x.ofMove(0, 1, 0, 3));
    }
}
