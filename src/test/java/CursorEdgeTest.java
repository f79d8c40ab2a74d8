import java.util.function.Function;
import java.util.function.Supplier;

/** Section 6, what is LET, and promises 14 to 20: a test for each sentence that names a boundary case. */
public final class CursorEdgeTest {
    private CursorEdgeTest() {
    }

    public static void main(String[] args) {
        let();
        stands();
        passed();
        goneByCalls();
        staysByCalls();
        staysByRefusedCalls();
        walk();
        forth();
        back();
        mend();
        slip();
        strike();
        cursor();
        Edge.end("CursorEdgeTest");
    }

    /** The CURSOR is in the TEXT 0, a|b|c, behind so many LINES that it went over from the front. */
    private static Supplier<Lineseam> behind(int lines) {
        return () -> {
            Lineseam x = Edge.with("a|b|c");
            x.walk(0);
            for (int k = 0; k < lines; k++) {
                x.forth();
            }
            return x;
        };
    }

    private static String told(Lineseam x) {
        return x.cursor(0) + " " + x.cursor(1) + " " + x.cursor(2);
    }

    // ---- what the document says ahead of section 1, and section 6

    private static void let() {
        Edge.of("0 a call that is LET, but can't be done, tells -9 and changes nothing: all four");
        Edge.cannot(behind(3), x -> x.forth());
        Edge.cannot(behind(0), x -> x.back());
        Edge.cannot(behind(0), x -> x.mend(4));
        Edge.cannot(behind(0), x -> x.strike());

        Edge.of("0 if an exception applies as well, that is thrown");
        Edge.refused(Edge.ARGUMENT, behind(0), x -> x.mend(26));
        Edge.refused(Edge.STATE, Edge::empty, x -> x.forth());
        Edge.refused(Edge.STATE, Edge::empty, x -> x.back());
        Edge.refused(Edge.STATE, Edge::empty, x -> x.mend(0));
        Edge.refused(Edge.STATE, Edge::empty, x -> x.strike());
    }

    private static void stands() {
        Edge.of("6 one CURSOR at most: it stands in the TEXT of the last walk() alone");
        Edge.let("1 0 0", behind(2), x -> x.walk(1) == 0 ? told(x) : "");

        Edge.of("6 it stands ahead of all, between two LINES, behind all");
        Edge.let("0 0 0", behind(0), x -> told(x));
        Edge.let("0 1 1", behind(1), x -> told(x));
        Edge.let("0 3 1", behind(3), x -> told(x));
    }

    private static void passed() {
        Edge.of("6 PASSED is the LINE over which it went last: forth or back");
        Edge.let("1 a|z|c", behind(2), x -> x.mend(25) + " " + x.whole(0));
        Edge.let("1 1 a|z|c", behind(2), x -> x.back() + " " + x.mend(25) + " " + x.whole(0));
        Edge.let("1 2 2 a|b|z", behind(1), x -> x.forth() + " " + x.forth() + " " + x.mend(25) + " " + x.whole(0));

        Edge.of("6 PASSED stays when a call that is LET can't be done");
        Edge.let("-9 2 a|b|z", behind(3), x -> x.forth() + " " + x.mend(25) + " " + x.whole(0));
        Edge.let("0 -9 0 z|b|c", behind(1), x -> x.back() + " " + x.back() + " " + x.mend(25) + " " + x.whole(0));

        Edge.of("6 till one is slipped in by it: then there is none PASSED");
        Edge.let("2 0 3 0", behind(2), x -> x.slip(3) + " " + told(x));
        Edge.let("2 -9 -9", behind(2), x -> x.slip(3) + " " + x.mend(0) + " " + x.strike());

        Edge.of("6 till one is struck by it: then there is none PASSED");
        Edge.let("2 0 1 0", behind(2), x -> x.strike() + " " + told(x));
        Edge.let("2 -9 -9", behind(2), x -> x.strike() + " " + x.mend(0) + " " + x.strike());
    }

    /** The CURSOR is in the TEXT 0, a LINE is PASSED; the TEXT 1 is another one, the TEXT 2 empty, a VERSION kept. */
    private static Lineseam ready() {
        Lineseam x = Edge.with("a|b", "a|b|c");
        x.patch(0, 1, 0);
        x.keep(0);
        x.walk(0);
        x.forth();
        return x;
    }

    private static void gone(String call, Function<Lineseam, Object> made) {
        Edge.of("6 if that TEXT is changed by another call, there is no CURSOR any more: " + call);
        Edge.let("-1 -1 -1", CursorEdgeTest::ready, x -> made.apply(x) == null ? "" : told(x));
        Edge.let("throws IllegalStateException", CursorEdgeTest::ready, x -> made.apply(x) == null ? "" : x.forth());
    }

    private static void goneByCalls() {
        gone("put", x -> x.put(0, 2));
        gone("add", x -> x.add(0, 2, 0));
        gone("change", x -> x.change(0, 1));
        gone("cut", x -> x.cut(0, 1, 2));
        gone("copy", x -> x.copy(0, 1));
        gone("carry", x -> x.carry(0, 0, 1));
        gone("write", x -> x.write(0));
        gone("lay", x -> x.lay(0, 0));
        gone("join", x -> x.join(0, 2, 1, 2, 0));
        gone("asOf", x -> x.asOf(0, 0));
        gone("change, also if it is the same behind it", x -> Edge.type(x, "a").change(0, 0));
        gone("cut of none, also if it is the same behind it", x -> x.cut(0, 1, 1));
        gone("copy of itself, also if it is the same behind it", x -> x.copy(0, 0));
        gone("carry of none, also if it is the same behind it", x -> x.carry(0, 2, 2));
        gone("carry of all, also if it is the same behind it", x -> x.carry(0, 0, 2));
        gone("join, also if it is the same behind it", x -> x.join(0, 0, 0, 0, 0));
        gone("lay of no HUNKS, also if it is the same behind it", x -> x.patch(0, 0, 0) + x.lay(0, 0));
        gone("lay, also if all HUNKS are REFUSED", x -> x.lay(1, 0) + x.lay(0, 0) + x.turn() + x.lay(0, 0));

        Edge.of("6 there is no CURSOR any more, also in a TEXT without LINES that is the same behind it");
        Edge.let("-1", Edge::empty, x -> x.walk(3) + x.cut(3, 0, 0) == 0 ? x.cursor(0) : "?");
        Edge.let("-1", Edge::empty, x -> x.walk(3) + x.write(3) == 0 ? x.cursor(0) : "?");
        Edge.let("-1", Edge::empty, x -> x.walk(3) + x.copy(3, 2) == 0 ? x.cursor(0) : "?");
        Edge.let("-1", Edge::empty, x -> x.walk(3) + x.lay(3, 0) == 0 ? x.cursor(0) : "?");
    }

    private static void stays(String call, Function<Lineseam, Object> made) {
        Edge.of("6 the CURSOR stays, and the LINE PASSED: " + call);
        Edge.let("0 1 1", CursorEdgeTest::ready, x -> made.apply(x) == null ? "" : told(x));
        Edge.let("0 z|b", CursorEdgeTest::ready, x -> made.apply(x) == null ? "" : x.mend(25) + " " + x.whole(0));
    }

    private static void staysByCalls() {
        stays("put into another TEXT", x -> x.put(1, 0));
        stays("add into another TEXT", x -> x.add(3, 0, 0));
        stays("change of another TEXT", x -> x.change(1, 0));
        stays("cut of another TEXT", x -> x.cut(1, 0, 3));
        stays("copy to another TEXT", x -> x.copy(1, 0));
        stays("carry in another TEXT", x -> x.carry(1, 0, 1));
        stays("write into another TEXT", x -> x.write(1));
        stays("lay on another TEXT", x -> x.lay(1, 9));
        stays("join into another TEXT", x -> x.join(1, 0, 0, 0, 0));
        stays("asOf of another TEXT", x -> x.asOf(2, 0));
        stays("read of its TEXT", x -> x.read(0));
        stays("patch of its TEXT", x -> x.patch(0, 0, 3));
        stays("keep of its TEXT", x -> x.keep(0));
        stays("turn and again", x -> x.turn() + x.again());
        stays("sign, erase and knock", x -> x.sign(0) + x.erase(1) + x.knock());
        stays("asking calls of its TEXT", x -> x.line(0, 0) + x.ofLine(0, 0, 0) + x.whole(0) + x.cursor(0)
                + x.script(0, 0, true) + x.ofScript(0, 0, false, 3) + x.within(0, 0, 0, 1) + x.moves(0, 0) + x.fault(0)
                + x.wouldJoin(0, 0, 0) + x.house(0) + x.isSound() + x.digest() + x.blame(0, 0, true));
    }

    private static void staysRefused(String call, Function<Lineseam, Object> made) {
        Edge.of("6 the CURSOR stays, if the call on its TEXT throws: " + call);
        Edge.refused(Edge.STATE, Edge::full, made);
        Edge.let("0 1 1", Edge::full, x -> Edge.outcome(x, made).isEmpty() ? "" : told(x));
    }

    private static void staysByRefusedCalls() {
        staysRefused("put", x -> x.put(0, 0));
        staysRefused("add", x -> x.add(0, 0, 0));
        staysRefused("slip", x -> x.slip(0));
        staysRefused("keep", x -> x.keep(0));

        Edge.of("6 the CURSOR stays, if the call on its TEXT throws: change, cut, copy, carry, asOf, lay, join, write");
        Edge.refused(Edge.INDEX, CursorEdgeTest::ready, x -> x.change(0, 2));
        Edge.refused(Edge.INDEX, CursorEdgeTest::ready, x -> x.cut(0, 1, 0));
        Edge.refused(Edge.INDEX, CursorEdgeTest::ready, x -> x.copy(0, 4));
        Edge.refused(Edge.INDEX, CursorEdgeTest::ready, x -> x.carry(0, 1, 0));
        Edge.refused(Edge.INDEX, CursorEdgeTest::ready, x -> x.asOf(0, 1));
        Edge.refused(Edge.ARGUMENT, CursorEdgeTest::ready, x -> x.lay(0, 10));
        Edge.refused(Edge.ARGUMENT, CursorEdgeTest::ready, x -> x.join(0, 0, 0, 0, 4));
    }

    // ---- promises 14 to 20

    private static void walk() {
        Edge.of("P14 IndexOutOfBoundsException if there is no such TEXT");
        Edge.texts(Edge::busy, 5, 6, t -> x -> x.walk(t));
        Edge.texts(Edge::empty, 0, 0, t -> x -> x.walk(t));

        Edge.of("P14 ahead of all LINES, nothing is PASSED, also if it stood there already");
        Edge.let("3 0 0 0", behind(2), x -> x.walk(0) + " " + told(x));
        Edge.let("3 -9 -9", behind(2), x -> x.walk(0) + " " + x.mend(0) + " " + x.strike());

        Edge.of("P14 how many LINES it has: none, and 30");
        Edge.let("0 2 0 0", Edge::empty, x -> x.walk(2) + " " + told(x));
        Edge.let("30 0 0 0", Edge::full, x -> x.walk(0) + " " + told(x));
    }

    private static void forth() {
        Edge.of("P15 IllegalStateException if there is no CURSOR");
        Edge.refused(Edge.STATE, Edge::empty, x -> x.forth());
        Edge.refused(Edge.STATE, () -> cursorless(behind(1)), x -> x.forth());

        Edge.of("P15 it can't be done behind all: it can over the last LINE");
        Edge.let("2 0 3 1", behind(2), x -> x.forth() + " " + told(x));
        Edge.cannot(behind(3), x -> x.forth());
        Edge.cannot(() -> walked(1), x -> x.forth());

        Edge.of("P15 over all of 30 LINES");
        Lineseam x = Edge.full();
        for (int k = 1; k < 30; k++) {
            Edge.due(k % 26, x.forth());
        }
        Edge.due(-9, x.forth());
        Edge.due("0 30 1", told(x));
    }

    /** The TEXT of the CURSOR was changed, so that there is none. */
    private static Lineseam cursorless(Supplier<Lineseam> made) {
        Lineseam x = made.get();
        x.cut(x.cursor(0), 0, 0);
        return x;
    }

    /** The CURSOR is in this TEXT of an object whose TEXT 0 alone has LINES. */
    private static Lineseam walked(int text) {
        Lineseam x = Edge.with("a|b|c");
        x.walk(text);
        return x;
    }

    private static void back() {
        Edge.of("P16 IllegalStateException if there is no CURSOR");
        Edge.refused(Edge.STATE, Edge::empty, x -> x.back());
        Edge.refused(Edge.STATE, () -> cursorless(behind(1)), x -> x.back());

        Edge.of("P16 it can't be done ahead of all: it can over the first LINE");
        Edge.let("0 0 0 1", behind(1), x -> x.back() + " " + told(x));
        Edge.cannot(behind(0), x -> x.back());
        Edge.cannot(() -> walked(1), x -> x.back());
        Edge.let("0 -9 0 0 1", behind(1), x -> x.back() + " " + x.back() + " " + told(x));
    }

    private static void mend() {
        Edge.of("P17 IllegalArgumentException if word is not 0 to 25");
        Edge.bounds(Edge.ARGUMENT, behind(2), 0, 1, 25, 1, w -> x -> x.mend(w));

        Edge.of("P17 IllegalStateException if there is no CURSOR");
        Edge.refused(Edge.STATE, Edge::empty, x -> x.mend(0));
        Edge.refused(Edge.STATE, () -> cursorless(behind(1)), x -> x.mend(25));

        Edge.of("P17 of both exceptions the IllegalArgumentException is thrown");
        Edge.refused(Edge.ARGUMENT, Edge::empty, x -> x.mend(26));
        Edge.refused(Edge.ARGUMENT, Edge::empty, x -> x.mend(-1));

        Edge.of("P17 it can't be done if none is PASSED");
        Edge.cannot(behind(0), x -> x.mend(0));
        Edge.cannot(() -> struck(behind(2)), x -> x.mend(25));
        Edge.cannot(() -> slipped(behind(2)), x -> x.mend(25));
        Edge.cannot(() -> walked(3), x -> x.mend(0));

        Edge.of("P17 the first LINE, and the last one of 30");
        Edge.let("0 z|b|c", behind(1), x -> x.mend(25) + " " + x.whole(0));
        Edge.let("3 30 z", CursorEdgeTest::atEndOfFull, x -> x.mend(25) + " " + x.house(0) + " " + x.line(0, 29));

        Edge.of("P17 it is PASSED still, also if it becomes what it was");
        Edge.let("1 0 2 1", behind(2), x -> x.mend(1) + " " + told(x));
        Edge.let("1 3 4", behind(2), x -> x.mend(25) + " " + x.mend(24) + " " + x.mend(23));
        Edge.let("1 0 1 1", behind(2), x -> x.back() == 1 ? x.mend(25) + " " + told(x) : "");
    }

    private static Lineseam struck(Supplier<Lineseam> made) {
        Lineseam x = made.get();
        x.strike();
        return x;
    }

    private static Lineseam slipped(Supplier<Lineseam> made) {
        Lineseam x = made.get();
        x.slip(7);
        return x;
    }

    private static Lineseam atEndOfFull() {
        Lineseam x = Edge.full();
        for (int k = 1; k < 30; k++) {
            x.forth();
        }
        return x;
    }

    private static void slip() {
        Edge.of("P18 IllegalArgumentException if word is not 0 to 25");
        Edge.bounds(Edge.ARGUMENT, behind(2), 0, 2, 25, 2, w -> x -> x.slip(w));

        Edge.of("P18 IllegalStateException if there is no CURSOR");
        Edge.refused(Edge.STATE, Edge::empty, x -> x.slip(0));
        Edge.refused(Edge.STATE, () -> cursorless(behind(1)), x -> x.slip(25));

        Edge.of("P18 IllegalStateException if its TEXT has 30 LINES");
        Edge.let("1 30 0 2 0", Edge::almostFull, x -> x.slip(25) + " " + x.house(0) + " " + told(x));
        Edge.refused(Edge.STATE, Edge::full, x -> x.slip(25));
        Edge.let("0 0 1 1 0", Edge::full, x -> x.walk(1) + " " + x.slip(0) + " " + told(x));

        Edge.of("P18 of both exceptions the IllegalArgumentException is thrown");
        Edge.refused(Edge.ARGUMENT, Edge::full, x -> x.slip(26));
        Edge.refused(Edge.ARGUMENT, Edge::empty, x -> x.slip(-1));

        Edge.of("P18 ahead of all, between, behind all; the CURSOR stands behind it");
        Edge.let("0 z|a|b|c 0 1 0", behind(0), x -> x.slip(25) + " " + x.whole(0) + " " + told(x));
        Edge.let("1 a|z|b|c 0 2 0", behind(1), x -> x.slip(25) + " " + x.whole(0) + " " + told(x));
        Edge.let("3 a|b|c|z 0 4 0", behind(3), x -> x.slip(25) + " " + x.whole(0) + " " + told(x));
        Edge.let("0 z 3 1 0", () -> walked(3), x -> x.slip(25) + " " + x.whole(3) + " " + told(x));

        Edge.of("P18 one behind the other: in their order");
        Edge.let("1 2 a|y|x|b|c", behind(1), x -> x.slip(24) + " " + x.slip(23) + " " + x.whole(0));

        Edge.of("P18 behind back() it comes in ahead of the LINE that was PASSED");
        Edge.let("1 1 a|z|b|c", behind(2), x -> x.back() + " " + x.slip(25) + " " + x.whole(0));
    }

    private static void strike() {
        Edge.of("P19 IllegalStateException if there is no CURSOR");
        Edge.refused(Edge.STATE, Edge::empty, x -> x.strike());
        Edge.refused(Edge.STATE, () -> cursorless(behind(1)), x -> x.strike());

        Edge.of("P19 it can't be done if none is PASSED");
        Edge.cannot(behind(0), x -> x.strike());
        Edge.cannot(() -> struck(behind(2)), x -> x.strike());
        Edge.cannot(() -> slipped(behind(2)), x -> x.strike());
        Edge.cannot(() -> walked(3), x -> x.strike());

        Edge.of("P19 the first LINE, the last one, and the only one");
        Edge.let("2 b|c 0 0 0", behind(1), x -> x.strike() + " " + x.whole(0) + " " + told(x));
        Edge.let("2 a|b 0 2 0", behind(3), x -> x.strike() + " " + x.whole(0) + " " + told(x));
        Edge.let("0  2 0 0", () -> Edge.with(null, null, "q"),
                x -> x.walk(2) + x.forth() == 1 ? x.strike() + " " + x.whole(2) + " " + told(x) : "");

        Edge.of("P19 behind back() the CURSOR stands where it stood");
        Edge.let("1 2 a|c 0 1 0", behind(2), x -> x.back() + " " + x.strike() + " " + x.whole(0) + " " + told(x));
        Edge.let("0 2 b|c 0 0 0", behind(1), x -> x.back() + " " + x.strike() + " " + x.whole(0) + " " + told(x));

        Edge.of("P19 of 30 LINES 29 are left, and it takes one more again");
        Edge.let("29 0 30", Edge::full, x -> x.strike() + " " + x.slip(3) + " " + x.house(0));
    }

    private static void cursor() {
        Edge.of("P20 IllegalArgumentException if what is not 0 to 2");
        Edge.bounds(Edge.ARGUMENT, Edge::busy, 0, 1, 2, 1, w -> x -> x.cursor(w));
        Edge.bounds(Edge.ARGUMENT, Edge::empty, 0, -1, 2, -1, w -> x -> x.cursor(w));

        Edge.of("P20 NONE without a CURSOR, at first and when it is gone");
        Edge.unchanged("-1 -1 -1", Edge::empty, x -> told(x));
        Edge.unchanged("-1 -1 -1", () -> cursorless(behind(2)), x -> told(x));

        Edge.of("P20 the TEXT in which it stands: 0, and 3");
        Edge.unchanged("0 0 0", () -> walked(0), x -> told(x));
        Edge.unchanged("3 0 0", () -> walked(3), x -> told(x));

        Edge.of("P20 how many LINES are ahead of it: none, and all of 30");
        Edge.unchanged("0 0 0", behind(0), x -> told(x));
        Edge.unchanged("0 30 1", CursorEdgeTest::atEndOfFull, x -> told(x));

        Edge.of("P20 1 if a LINE is PASSED, otherwise 0: also the first one, ahead of which it stands");
        Edge.let("0 0 0 1", behind(1), x -> x.back() + " " + told(x));
    }
}
