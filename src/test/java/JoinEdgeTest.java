import java.util.function.Supplier;

/** Section 4 and promises 35 to 37: a test for each sentence that names a boundary case. */
public final class JoinEdgeTest {
    private JoinEdgeTest() {
    }

    public static void main(String[] args) {
        anchors();
        gaps();
        choices();
        quarrels();
        join();
        joinLimits();
        wouldJoin();
        quarrel();
        Edge.end("JoinEdgeTest");
    }

    /** The COMMON TEXT 0, the SIDES 1 and 2; null is a TEXT without LINES. */
    private static Supplier<Lineseam> over(String common, String one, String two) {
        return () -> Edge.with(common, one, two);
    }

    private static void joined(String want, String common, String one, String two, int choice) {
        Edge.let(want, over(common, one, two), x -> x.join(3, 0, 1, 2, choice) + " " + x.whole(3));
    }

    private static String told(Lineseam x, int quarrel) {
        return x.quarrel(quarrel, 0) + " " + x.quarrel(quarrel, 1) + " " + x.quarrel(quarrel, 2) + " "
                + x.quarrel(quarrel, 3) + " " + x.quarrel(quarrel, 4);
    }

    // ---- section 4

    private static void anchors() {
        Edge.of("4 without any ANCHOR: one GAP of all");
        joined("1 p|q", "a|b", "p", "q", 3);
        joined("0 p", "a|b", "a|b", "p", 0);
        joined("0 p", "a|b", "p", "p", 0);

        Edge.of("4 without any LINE in the COMMON one: one GAP of all");
        joined("1 p|q", null, "p", "q", 3);
        joined("0 p", null, "p", null, 0);
        joined("0 q", null, null, "q", 0);
        joined("0 p", null, "p", "p", 0);
        Edge.let("0 ", Edge::empty, x -> x.join(3, 0, 1, 2, 3) + " " + x.whole(3));

        Edge.of("4 a SIDE, or both, without LINES");
        joined("0 ", "a|b", null, "a|b", 0);
        joined("0 ", "a|b", "a|b", null, 0);
        joined("0 ", "a|b", null, null, 0);
        joined("1 ", "a|b", null, "a|p", 0);
        joined("1 a|p", "a|b", null, "a|p", 1);

        Edge.of("4 ANCHORS are those that STAY in both, not in one");
        joined("1 p|b|c|a|q", "a|b|c", "p|b|c", "a|q", 3);
        joined("1 a|p|c|b|q", "a|b|c", "a|p|c", "a|b|q", 3);

        Edge.of("4 ahead of the first ANCHOR lies a GAP, and behind the last one");
        joined("0 p|a|q", "a", "p|a", "a|q", 0);
        joined("0 q|a|p", "a", "a|p", "q|a", 0);
        joined("1 p|q|a", "a", "p|a", "q|a", 3);
        joined("1 a|p|q", "a", "a|p", "a|q", 3);

        Edge.of("4 between two that follow each other lies a GAP, also without a LINE of the COMMON one");
        joined("0 a|p|b", "a|b", "a|p|b", "a|b", 0);
        joined("1 a|p|q|b", "a|b", "a|p|b", "a|q|b", 3);
        joined("0 a|c", "a|b|c", "a|c", "a|b|c", 0);

        Edge.of("4 all LINES are ANCHORS: 30, with 31 GAPS without LINES");
        Edge.let("0 true", Edge::full, x -> {
            x.copy(1, 0);
            x.copy(2, 0);
            return x.join(3, 0, 1, 2, 0) + " " + x.whole(3).equals(x.whole(0));
        });
    }

    private static void gaps() {
        Edge.of("4 if the ROW of the first SIDE is that of the COMMON one: the ROW of the second, also without LINES");
        joined("0 a|q|c", "a|b|c", "a|b|c", "a|q|c", 0);
        joined("0 a|c", "a|b|c", "a|b|c", "a|c", 0);

        Edge.of("4 otherwise, if that of the second one is that of the COMMON one: the first, also without LINES");
        joined("0 a|p|c", "a|b|c", "a|p|c", "a|b|c", 1);
        joined("0 a|c", "a|b|c", "a|c", "a|b|c", 1);

        Edge.of("4 or that of the first one: the first, also without LINES");
        joined("0 a|p|c", "a|b|c", "a|p|c", "a|p|c", 2);
        joined("0 a|c", "a|b|c", "a|c", "a|c", 2);

        Edge.of("4 otherwise it is a QUARREL: also if one ROW has no LINES, or is the other's beginning");
        joined("1 a|c", "a|b|c", "a|c", "a|q|c", 0);
        joined("1 a|p|q|c", "a|b|c", "a|p|c", "a|p|q|c", 1);
        joined("1 a|b|p|c", "a|b|c", "a|b|p|c", "a|b|q|c", 0);

        Edge.of("4 EXACT SCRIPTS: LINES that are LIKE LOOSELY are unlike ones");
        joined("1 a ", "a", "a ", " a", 0);
    }

    private static void choices() {
        Edge.of("4 a CHOICE: 0 the ROW of the first SIDE, 1 of the second, 2 of the COMMON one, 3 of both");
        joined("1 a|p|c", "a|b|c", "a|p|c", "a|q|r|c", 0);
        joined("1 a|q|r|c", "a|b|c", "a|p|c", "a|q|r|c", 1);
        joined("1 a|b|c", "a|b|c", "a|p|c", "a|q|r|c", 2);
        joined("1 a|p|q|r|c", "a|b|c", "a|p|c", "a|q|r|c", 3);

        Edge.of("4 a CHOICE of a ROW without LINES");
        joined("1 a|c", "a|b|c", "a|c", "a|q|c", 0);
        joined("1 a|c", "a|b|c", "a|q|c", "a|c", 1);
        joined("1 a|c", "a|c", "a|p|c", "a|q|c", 2);
        joined("1 a|q|c", "a|b|c", "a|c", "a|q|c", 3);

        Edge.of("4 one CHOICE for all QUARRELS, none for what is no QUARREL");
        joined("2 q|a|r|b|q", "a|b", "p|a|r|b|p", "q|a|b|q", 1);
    }

    private static void quarrels() {
        Edge.of("4 none at first");
        Edge.let(0, Edge::empty, x -> x.house(7));
        Edge.refused(Edge.INDEX, Edge::empty, x -> x.quarrel(0, 0));

        Edge.of("4 QUARRELS of the last JOIN: none, if that had none");
        Edge.let("0 0", Edge::busy, x -> x.join(3, 0, 0, 0, 0) + " " + x.house(7));

        Edge.of("4 QUARRELS of the last JOIN: no other call changes them");
        Edge.let("0 2: 1 1 1 1 1 / 3 1 1 1 1", Edge::busy, x -> {
            x.cut(0, 0, 5);
            x.cut(3, 0, 6);
            x.patch(1, 2, 0);
            x.lay(1, 0);
            x.again();
            x.copy(2, 1);
            x.isSound();
            x.digest();
            return x.wouldJoin(1, 1, 1) + " " + x.house(7) + ": " + told(x, 0) + " / " + told(x, 1);
        });

        Edge.of("4 QUARRELS are numbered from 0, up to 18 of them");
        Edge.let("18: 0 0 1 1 1 / 2 1 0 1 0 / 28 1 1 0 1", JoinEdgeTest::eighteen, x -> x.join(3, 0, 1, 2, 0) + ": "
                + told(x, 0) + " / " + told(x, 1) + " / " + told(x, 17));
        Edge.unchanged(18, JoinEdgeTest::eighteen, x -> x.wouldJoin(0, 1, 2));

        Edge.of("4 QUARRELS of ROWS without a LINE of the COMMON one, 15 of them");
        Lineseam x = new Lineseam();
        for (int k = 0; k < 15; k++) {
            x.add(0, k, k);
            x.add(1, 2 * k, 25);
            x.add(1, 2 * k + 1, k);
            x.add(2, 2 * k, 24);
            x.add(2, 2 * k + 1, k);
        }
        Edge.due(15, x.join(3, 0, 1, 2, 0));
        for (int q = 0; q < 15; q++) {
            Edge.due(2 * q + " 0 1 1 1", told(x, q));
        }
        Edge.due(x.whole(1), x.whole(3));
        Edge.due(15, x.join(3, 0, 1, 2, 2));
        Edge.due("14 0 1 1 0", told(x, 14));
        Edge.due("throws IllegalStateException", Edge.outcome(x, y -> y.join(3, 0, 1, 2, 3)));
    }

    /** 17 ANCHORS with 18 GAPS, in each of which another of the three ROWS has no LINE. */
    private static Lineseam eighteen() {
        Lineseam x = new Lineseam();
        for (int k = 0; k < 18; k++) {
            for (int t = 0; t < 3; t++) {
                if (k % 3 != t) {
                    x.add(t, x.house(t), 23 + t);
                }
                if (k < 17) {
                    x.add(t, x.house(t), k);
                }
            }
        }
        return x;
    }

    // ---- promises 35 to 37

    private static void join() {
        Edge.of("P35 IndexOutOfBoundsException if there is no such TEXT (the one that it becomes)");
        Edge.texts(Edge::busy, 2, 2, t -> x -> x.join(t, 0, 1, 2, 0));

        Edge.of("P35 IndexOutOfBoundsException if there is no such TEXT (the COMMON one)");
        Edge.texts(Edge::busy, 2, 0, t -> x -> x.join(3, t, 1, 2, 0));

        Edge.of("P35 IndexOutOfBoundsException if there is no such TEXT (the first SIDE)");
        Edge.texts(Edge::busy, 0, 2, t -> x -> x.join(3, 0, t, 2, 0));

        Edge.of("P35 IndexOutOfBoundsException if there is no such TEXT (the second SIDE)");
        Edge.texts(Edge::busy, 0, 2, t -> x -> x.join(1, 0, 2, t, 0));

        Edge.of("P35 IllegalArgumentException if choice is not 0 to 3");
        Edge.bounds(Edge.ARGUMENT, Edge::busy, 0, 2, 3, 2, c -> x -> x.join(3, 0, 1, 2, c));
        Edge.bounds(Edge.ARGUMENT, Edge::empty, 0, 0, 3, 0, c -> x -> x.join(3, 0, 1, 2, c));

        Edge.of("P35 of both exceptions the IndexOutOfBoundsException is thrown");
        Edge.refused(Edge.INDEX, Edge::busy, x -> x.join(4, 0, 1, 2, 4));
        Edge.refused(Edge.INDEX, Edge::busy, x -> x.join(0, 0, 1, -1, -1));

        Edge.of("P35 all four may be the same, or some of them");
        Edge.let("0 a|x|c|y|e", Edge::busy, x -> x.join(1, 1, 1, 1, 0) + " " + x.whole(1));
        Edge.let("2 a|z|c|q|e|f", Edge::busy, x -> x.join(0, 0, 1, 2, 1) + " " + x.whole(0));
        Edge.let("2 a|x|z|c|y|q|e|f", Edge::busy, x -> x.join(1, 0, 1, 2, 3) + " " + x.whole(1));
        Edge.let("2 a|b|c|d|e|f", Edge::busy, x -> x.join(2, 0, 1, 2, 2) + " " + x.whole(2));
    }

    /** The SIDES have so many LINES, and none of them is in the other one, or in the COMMON one. */
    private static Lineseam sides(int one, int two) {
        Lineseam x = Edge.with("@");
        Edge.words(x, 1, one);
        Edge.type(x, "0");
        for (int k = 0; k < two; k++) {
            x.put(2, k);
        }
        x.join(3, 0, 1, 2, two > one ? 0 : 1);
        x.walk(3);
        x.forth();
        return x;
    }

    private static void joinLimits() {
        Edge.of("P35 IllegalStateException if it would have more than 30 LINES");
        Edge.let("1 30", () -> sides(15, 15), x -> x.join(3, 0, 1, 2, 3) + " " + x.house(3));
        Edge.refused(Edge.STATE, () -> sides(16, 15), x -> x.join(3, 0, 1, 2, 3));
        Edge.refused(Edge.STATE, () -> sides(15, 16), x -> x.join(3, 0, 1, 2, 3));
        Edge.refused(Edge.STATE, () -> sides(30, 30), x -> x.join(3, 0, 1, 2, 3));
        Edge.refused(Edge.STATE, () -> sides(30, 30), x -> x.join(0, 0, 1, 2, 3));

        Edge.of("P35 more than 30 by another CHOICE is no matter");
        for (int c = 0; c < 3; c++) {
            int choice = c;
            Edge.let(1, () -> sides(30, 30), x -> x.join(3, 0, 1, 2, choice));
        }

        Edge.of("P35 more than 30 LINES without any QUARREL: 15 ahead by one SIDE, 15 behind by the other");
        Edge.let("0 30", () -> about(15, 14), x -> x.join(3, 0, 1, 2, 0) + " " + x.house(3));
        Edge.refused(Edge.STATE, () -> about(15, 15), x -> x.join(3, 0, 1, 2, 0));
        Edge.refused(Edge.STATE, () -> about(29, 29), x -> x.join(3, 0, 1, 2, 0));

        Edge.of("P35 of several exceptions the one that is named first is thrown");
        Edge.refused(Edge.INDEX, () -> sides(30, 30), x -> x.join(3, 0, 1, 4, 4));
        Edge.refused(Edge.ARGUMENT, () -> sides(30, 30), x -> x.join(3, 0, 1, 2, 4));
        Edge.refused(Edge.ARGUMENT, () -> about(29, 29), x -> x.join(3, 0, 1, 2, -1));

        Edge.of("P35 that throws: the QUARRELS of the JOIN before are there still");
        Edge.let("throws IllegalStateException 1 0 1 16 15 15", () -> sides(16, 15),
                x -> Edge.outcome(x, y -> y.join(3, 0, 1, 2, 3)) + " " + x.house(7) + " " + told(x, 0));
    }

    /** One LINE in common: so many ahead of it in the first SIDE, so many behind it in the second. */
    private static Lineseam about(int ahead, int behind) {
        Lineseam x = Edge.with("@", null, "@");
        Edge.words(x, 1, ahead);
        Edge.type(x, "@");
        x.put(1, ahead);
        Edge.words(x, 2, behind);
        x.walk(3);
        return x;
    }

    private static void wouldJoin() {
        Edge.of("P36 IndexOutOfBoundsException if there is no such TEXT (the COMMON one)");
        Edge.texts(Edge::busy, 2, 0, t -> x -> x.wouldJoin(t, 1, 2));

        Edge.of("P36 IndexOutOfBoundsException if there is no such TEXT (the first SIDE)");
        Edge.texts(Edge::busy, 0, 2, t -> x -> x.wouldJoin(0, t, 2));

        Edge.of("P36 IndexOutOfBoundsException if there is no such TEXT (the second SIDE)");
        Edge.texts(Edge::busy, 0, 2, t -> x -> x.wouldJoin(0, 2, t));

        Edge.of("P36 nothing is changed: not the QUARRELS, not a TEXT, not the CURSOR");
        Edge.unchanged(2, Edge::busy, x -> x.wouldJoin(0, 1, 2));
        Edge.unchanged(0, Edge::busy, x -> x.wouldJoin(1, 1, 1));
        Edge.unchanged(0, Edge::empty, x -> x.wouldJoin(0, 1, 2));

        Edge.of("P36 also where the JOIN would have more than 30 LINES");
        Edge.unchanged(1, () -> sides(30, 30), x -> x.wouldJoin(0, 1, 2));
        Edge.unchanged(0, () -> about(29, 29), x -> x.wouldJoin(0, 1, 2));
    }

    private static void quarrel() {
        Edge.of("P37 IndexOutOfBoundsException if there is no such QUARREL");
        Edge.bounds(Edge.INDEX, Edge::busy, 0, 1, 1, 3, q -> x -> x.quarrel(q, 0));
        Edge.refused(Edge.INDEX, Edge::empty, x -> x.quarrel(0, 0));
        Edge.refused(Edge.INDEX, Edge::full, x -> x.quarrel(0, 4));

        Edge.of("P37 IllegalArgumentException if what is not 0 to 4");
        Edge.bounds(Edge.ARGUMENT, Edge::busy, 0, 3, 4, 1, w -> x -> x.quarrel(1, w));

        Edge.of("P37 of both exceptions the IndexOutOfBoundsException is thrown");
        Edge.refused(Edge.INDEX, Edge::busy, x -> x.quarrel(2, 5));
        Edge.refused(Edge.INDEX, Edge::busy, x -> x.quarrel(-1, -1));
        Edge.refused(Edge.INDEX, Edge::empty, x -> x.quarrel(0, 5));

        Edge.of("P37 how many LINES lie ahead: none, and those of another QUARREL as it became");
        String[] due = {
            "0 0 1 2 1 / 2 1 1 1 1", "0 0 1 2 2 / 3 1 1 1 1", "0 0 1 2 0 / 1 1 1 1 1", "0 0 1 2 3 / 4 1 1 1 2",
        };
        for (int c = 0; c < 4; c++) {
            int choice = c;
            Edge.let(due[c], over("a|b|c", "p|a|q|c", "r|s|a|t|c"),
                    x -> x.join(3, 0, 1, 2, choice) == 2 ? told(x, 0) + " / " + told(x, 1) : "");
        }

        Edge.of("P37 ROWS of none: of the COMMON one, of the first SIDE, of the second");
        Edge.let("1 0 1 1 1", over("a|b", "a|p|b", "a|q|b"), x -> x.join(3, 0, 1, 2, 1) == 1 ? told(x, 0) : "");
        Edge.let("1 1 0 1 0", over("a|n|b", "a|b", "a|q|b"), x -> x.join(3, 0, 1, 2, 0) == 1 ? told(x, 0) : "");
        Edge.let("1 1 1 0 0", over("a|n|b", "a|q|b", "a|b"), x -> x.join(3, 0, 1, 2, 1) == 1 ? told(x, 0) : "");

        Edge.of("P37 ROWS of 30");
        Edge.let("0 1 30 30 1", () -> sides(30, 30), x -> x.join(3, 0, 1, 2, 2) == 1 ? told(x, 0) : "");
        Edge.let("0 30 1 30 30", () -> sides(30, 30), x -> x.join(3, 1, 0, 2, 2) == 1 ? told(x, 0) : "");
    }
}
