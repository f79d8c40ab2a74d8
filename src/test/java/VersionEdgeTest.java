import java.math.BigInteger;
import java.util.ArrayList;
import java.util.List;
import java.util.function.Supplier;

/** Section 5, promises 38 to 45, and what is said of all calls: a test for each sentence that names a boundary case. */
public final class VersionEdgeTest {
    private VersionEdgeTest() {
    }

    public static void main(String[] args) {
        versions();
        blamed();
        lived();
        keep();
        asOf();
        blame();
        ofVersion();
        knock();
        house();
        isSound();
        digest();
        wrapAround();
        calls();
        Edge.end("VersionEdgeTest");
    }

    /** Each of these becomes a VERSION, one behind the other; null is a TEXT without LINES. */
    private static Supplier<Lineseam> kept(String... rows) {
        return () -> {
            Lineseam x = new Lineseam();
            for (String row : rows) {
                x.cut(0, 0, x.house(0));
                if (row != null) {
                    Edge.fill(x, 0, row);
                }
                x.keep(0);
            }
            return x;
        };
    }

    private static String blames(Lineseam x, int version) {
        return told(x, version, false);
    }

    private static String lives(Lineseam x, int version) {
        return told(x, version, true);
    }

    private static String told(Lineseam x, int version, boolean isLife) {
        StringBuilder all = new StringBuilder();
        for (int k = 0; k < x.ofVersion(version, 0); k++) {
            all.append(k > 0 ? " " : "").append(x.blame(version, k, isLife));
        }
        return all.toString();
    }

    // ---- section 5

    private static void versions() {
        Edge.of("5 none at first");
        Edge.let(0, Edge::empty, x -> x.house(8));
        Edge.refused(Edge.INDEX, Edge::empty, x -> x.ofVersion(0, 0));
        Edge.refused(Edge.INDEX, Edge::empty, x -> x.asOf(0, 0));
        Edge.refused(Edge.INDEX, Edge::empty, x -> x.blame(0, 0, false));

        Edge.of("5 at most 8, numbered from 0");
        Edge.let("7 8", Edge::almostFull, x -> x.keep(0) + " " + x.house(8));
        Edge.refused(Edge.STATE, Edge::full, x -> x.keep(0));

        Edge.of("5 the LINES of a TEXT as they were when it was kept: of none, and of 30");
        Edge.let("0 30", Edge::full, x -> x.ofVersion(0, 0) + " " + x.ofVersion(7, 0));

        Edge.of("5 as they were when it was kept: a TEXT that is changed behind it changes no VERSION");
        Edge.let("a|b|c", kept("a|b|c"), x -> {
            x.change(0, 0);
            x.walk(0);
            x.forth();
            x.mend(25);
            x.cut(0, 1, 3);
            x.asOf(1, 0);
            x.cut(1, 0, 2);
            return x.asOf(2, 0) == 3 ? x.whole(2) : "";
        });
    }

    private static void blamed() {
        Edge.of("5 BLAME: the VERSION itself, if it is the VERSION 0");
        Edge.let("0 0 0", kept("a|b|c", "d"), x -> blames(x, 0));

        Edge.of("5 BLAME: the VERSION itself, if the LINE comes IN from the VERSION ahead");
        Edge.let("1 0 1", kept("b", "a|b|c"), x -> blames(x, 1));
        Edge.let("1 1", kept(null, "a|b"), x -> blames(x, 1));

        Edge.of("5 otherwise the BLAME of that LINE there: through all 8");
        Edge.let("0", kept("a", "a", "a", "a", "a", "a", "a", "a"), x -> blames(x, 7));
        Edge.let("7 6 5 4 3 2 1 0", kept("a", "b|a", "c|b|a", "d|c|b|a", "e|d|c|b|a", "f|e|d|c|b|a", "g|f|e|d|c|b|a",
                "h|g|f|e|d|c|b|a"), x -> blames(x, 7));

        Edge.of("5 a LINE that went and came again: the VERSION with which it came again");
        Edge.let("2", kept("a", null, "a", "a"), x -> blames(x, 3));
        Edge.let("2 0", kept("a|b", "b", "a|b"), x -> blames(x, 2));

        Edge.of("5 equal LINES: each by its own step of the EXACT SCRIPT");
        Edge.let("0 1", kept("a", "a|a"), x -> blames(x, 1));
        Edge.let("1", kept("a ", " a"), x -> blames(x, 1));
        Edge.let("0 1", kept("a|b", "b|a"), x -> blames(x, 1));
    }

    private static void lived() {
        Edge.of("5 LIFE: the VERSION itself, if it is the last one");
        Edge.let("0 0", kept("a|b"), x -> lives(x, 0));
        Edge.let("1 1", kept("a", "a|b"), x -> lives(x, 1));

        Edge.of("5 LIFE: the last one is another one, once one more is kept");
        Edge.let("0 1", kept("a"), x -> lives(x, 0) + (x.keep(0) == 1 ? " " + lives(x, 0) : ""));

        Edge.of("5 LIFE: the VERSION itself, if the LINE goes OUT to the next VERSION");
        Edge.let("0 1 0", kept("a|b|c", "b"), x -> lives(x, 0));
        Edge.let("0 0", kept("a|b", null), x -> lives(x, 0));

        Edge.of("5 otherwise the LIFE of that which it is there: through all 8");
        Edge.let("7", kept("a", "a", "a", "a", "a", "a", "a", "a"), x -> lives(x, 0));
        Edge.let("0 1 2 3 4 5 6 7", kept("h|g|f|e|d|c|b|a", "g|f|e|d|c|b|a", "f|e|d|c|b|a", "e|d|c|b|a", "d|c|b|a",
                "c|b|a", "b|a", "a"), x -> lives(x, 0));

        Edge.of("5 LIFE of a LINE that went and came again: the VERSION ahead of which it went");
        Edge.let("0", kept("a", null, "a"), x -> lives(x, 0));

        Edge.of("5 equal LINES: each by its own step of the SCRIPT");
        Edge.let("1 0", kept("a|a", "a"), x -> lives(x, 0));
        Edge.let("0 1", kept("a|b", "b|a"), x -> lives(x, 0));
    }

    // ---- promises 38 to 45

    private static void keep() {
        Edge.of("P38 IndexOutOfBoundsException if there is no such TEXT");
        Edge.texts(Edge::busy, 3, 3, t -> x -> x.keep(t));
        Edge.texts(Edge::empty, 0, 0, t -> x -> x.keep(t));

        Edge.of("P38 IllegalStateException if there are 8");
        Edge.let(7, Edge::almostFull, x -> x.keep(1));
        Edge.refused(Edge.STATE, Edge::full, x -> x.keep(1));
        Edge.refused(Edge.STATE, Edge::full, x -> x.keep(3));

        Edge.of("P38 of both exceptions the IndexOutOfBoundsException is thrown");
        Edge.refused(Edge.INDEX, Edge::full, x -> x.keep(4));
        Edge.refused(Edge.INDEX, Edge::full, x -> x.keep(-1));

        Edge.of("P38 the number of the VERSION: 0 to 7");
        Lineseam x = new Lineseam();
        for (int v = 0; v < 8; v++) {
            Edge.due(v, x.keep(0));
        }
        Edge.due("throws IllegalStateException", Edge.outcome(x, y -> y.keep(0)));
    }

    private static void asOf() {
        Edge.of("P39 IndexOutOfBoundsException if there is no such TEXT");
        Edge.texts(Edge::busy, 5, 5, t -> x -> x.asOf(t, 1));

        Edge.of("P39 IndexOutOfBoundsException if there is no such VERSION");
        Edge.bounds(Edge.INDEX, Edge::busy, 0, 5, 2, 6, v -> x -> x.asOf(3, v));
        Edge.bounds(Edge.INDEX, Edge::full, 0, 0, 7, 30, v -> x -> x.asOf(0, v));
        Edge.refused(Edge.INDEX, Edge::empty, x -> x.asOf(0, 0));
        Edge.refused(Edge.INDEX, Edge::busy, x -> x.asOf(4, 3));

        Edge.of("P39 a VERSION of none, and of 30");
        Edge.let("0 ", Edge::full, x -> x.asOf(0, 0) + " " + x.whole(0));
        Edge.let("30 true", Edge::full, x -> x.asOf(3, 7) + " " + x.whole(3).equals(x.whole(0)));
    }

    private static void blame() {
        Edge.of("P40 IndexOutOfBoundsException if there is no such VERSION");
        Edge.bounds(Edge.INDEX, Edge::busy, 0, 0, 2, 0, v -> x -> x.blame(v, 0, false));
        Edge.bounds(Edge.INDEX, Edge::busy, 0, 2, 2, 2, v -> x -> x.blame(v, 0, true));
        Edge.refused(Edge.INDEX, Edge::empty, x -> x.blame(0, 0, false));
        Edge.refused(Edge.INDEX, Edge::full, x -> x.blame(8, 0, true));

        Edge.of("P40 IndexOutOfBoundsException if there is no such LINE");
        Edge.bounds(Edge.INDEX, Edge::busy, 0, 0, 5, 2, p -> x -> x.blame(2, p, false));
        Edge.bounds(Edge.INDEX, Edge::busy, 0, 2, 4, 2, p -> x -> x.blame(0, p, true));
        Edge.bounds(Edge.INDEX, Edge::full, 0, 7, 29, 7, p -> x -> x.blame(7, p, true));
        Edge.refused(Edge.INDEX, Edge::full, x -> x.blame(0, 0, false));
        Edge.refused(Edge.INDEX, Edge::full, x -> x.blame(0, 0, true));

        Edge.of("P40 the PLACE is one of that VERSION, not of another one");
        Edge.refused(Edge.INDEX, Edge::busy, x -> x.blame(0, 5, false));
        Edge.refused(Edge.INDEX, kept("a", "a|b"), x -> x.blame(0, 1, true));
        Edge.let("1 1", kept("a", "a|b"), x -> x.blame(1, 1, false) + " " + x.blame(1, 1, true));
    }

    private static String counts(Lineseam x, int version) {
        return x.ofVersion(version, 0) + " " + x.ofVersion(version, 1) + " " + x.ofVersion(version, 2) + " "
                + x.ofVersion(version, 3);
    }

    private static void ofVersion() {
        Edge.of("P41 IndexOutOfBoundsException if there is no such VERSION");
        Edge.bounds(Edge.INDEX, Edge::busy, 0, 5, 2, 6, v -> x -> x.ofVersion(v, 0));
        Edge.bounds(Edge.INDEX, Edge::full, 0, 0, 7, 30, v -> x -> x.ofVersion(v, 0));
        Edge.refused(Edge.INDEX, Edge::empty, x -> x.ofVersion(0, 0));

        Edge.of("P41 IllegalArgumentException if what is not 0 to 3");
        Edge.bounds(Edge.ARGUMENT, Edge::busy, 0, 6, 3, 3, w -> x -> x.ofVersion(2, w));
        Edge.bounds(Edge.ARGUMENT, Edge::busy, 0, 5, 3, 5, w -> x -> x.ofVersion(0, w));

        Edge.of("P41 of both exceptions the IndexOutOfBoundsException is thrown");
        Edge.refused(Edge.INDEX, Edge::busy, x -> x.ofVersion(3, 4));
        Edge.refused(Edge.INDEX, Edge::busy, x -> x.ofVersion(-1, -1));
        Edge.refused(Edge.INDEX, Edge::empty, x -> x.ofVersion(0, 4));

        Edge.of("P41 of the VERSION 0: all came IN, none went OUT, all are BLAMED on it");
        Edge.let("3 3 0 3", kept("a|b|c"), x -> counts(x, 0));
        Edge.let("3 3 0 3", kept("a|b|c", "d"), x -> counts(x, 0));
        Edge.let("0 0 0 0", kept((String) null), x -> counts(x, 0));

        Edge.of("P41 none came IN or went OUT, and all did");
        Edge.let("2 0 0 2", kept("a|b", "a|b"), x -> counts(x, 1));
        Edge.let("2 2 3 0", kept("a|b|c", "d|e"), x -> counts(x, 1));
        Edge.let("0 0 2 0", kept("a|b", null), x -> counts(x, 1));
        Edge.let("2 2 0 0", kept(null, "a|b"), x -> counts(x, 1));

        Edge.of("P41 of 30 LINES, and of the VERSION 7");
        Edge.let("30 30 0 0", Edge::full, x -> counts(x, 6));
        Edge.let("30 0 0 0", Edge::full, x -> counts(x, 7));
        Edge.let("2 1 1 1", kept("a", "a", "a", "a", "a", "a", "a|b", "a|c"), x -> counts(x, 7));
    }

    private static void knock() {
        Edge.of("P42 with this: 1 at first");
        Edge.let("1 2 2", Edge::empty, x -> x.knock() + " " + x.knock() + " " + x.house(9));

        Edge.of("P42 nothing else is changed by it, and no other call knocks");
        Edge.let("2 1", Edge::busy, x -> x.knock() + " " + (x.house(9) - 1));
    }

    private static void house() {
        Edge.of("P43 IllegalArgumentException if what is not 0 to 9");
        Edge.bounds(Edge.ARGUMENT, Edge::busy, 0, 5, 9, 1, w -> x -> x.house(w));
        Edge.bounds(Edge.ARGUMENT, Edge::empty, 0, 0, 9, 0, w -> x -> x.house(w));

        Edge.of("P43 each of the ten, of an object with some of everything");
        int[] busy = {5, 5, 6, 6, 10, 3, 1, 2, 3, 1};
        for (int what = 0; what < 10; what++) {
            int asked = what;
            Edge.unchanged(busy[what], Edge::busy, x -> x.house(asked));
        }

        Edge.of("P43 each of the ten, of an object that is full");
        int[] full = {30, 0, 0, 0, 26, 0, 0, 0, 8, 0};
        for (int what = 0; what < 10; what++) {
            int asked = what;
            Edge.unchanged(full[what], Edge::full, x -> x.house(asked));
        }
    }

    /** 30 LINES in the TEXT 0 and 30 in the TEXT 1, none of them in the other one; one of them in the TEXT 2. */
    private static Lineseam unlike() {
        Lineseam x = new Lineseam();
        for (int k = 0; k < 30; k++) {
            Edge.type(x, "a" + k);
            x.put(0, k);
            Edge.type(x, "b" + k);
            x.put(1, k);
        }
        x.put(2, 0);
        return x;
    }

    private static void isSound() {
        Edge.of("P44 all of this is so without any LINE, and of an object with some of everything");
        Edge.unchanged(true, Edge::empty, x -> x.isSound());
        Edge.unchanged(true, Edge::busy, x -> x.isSound());

        Edge.of("P44 all of this is so of TEXTS of 30, equal and unlike ones, also with more LINES on the way");
        Edge.unchanged(true, Edge::full, x -> x.isSound());
        Edge.unchanged(true, VersionEdgeTest::unlike, x -> x.isSound());
        Edge.unchanged(true, () -> {
            Lineseam x = unlike();
            x.copy(3, 0);
            x.cut(3, 1, 30);
            x.copy(2, 1);
            x.cut(2, 29, 30);
            Edge.type(x, "a0");
            x.put(2, 29);
            return x;
        }, x -> x.isSound());

        Edge.of("P44 all of this is so, though the JOIN of both SIDES would have more than 30 LINES");
        Edge.unchanged(true, () -> {
            Lineseam x = Edge.with("@", null, "@");
            Edge.words(x, 1, 29);
            Edge.type(x, "@");
            x.put(1, 29);
            Edge.words(x, 2, 29);
            return x;
        }, x -> x.isSound());

        Edge.of("P44 all of this is so of 8 VERSIONS, with LINES that went and came again");
        Edge.unchanged(true, kept("a|b", "b|a", "b", null, "a|a", "a|b|a", " a|a", "a|b"), x -> x.isSound());

        Edge.of("P44 all of this is so of TEXTS that are only LIKE LOOSELY");
        Edge.unchanged(true, () -> Edge.with("a b| |ab", "ab|| a", "ab |a b|b", " "), x -> x.isSound());
    }

    /** What a digest is computed of, by the other calls alone. */
    private static List<Long> values(Lineseam x) {
        List<Long> all = new ArrayList<>();
        for (int what = 0; what < 10; what++) {
            all.add((long) x.house(what));
        }
        for (int what = 0; what < 3; what++) {
            all.add((long) x.cursor(what));
        }
        all.add((long) x.draft().length());
        for (int t = 0; t < 4; t++) {
            for (int k = 0; k < x.house(t); k++) {
                all.add((long) x.ofLine(t, k, 0));
                all.add((long) x.ofLine(t, k, 1));
            }
        }
        for (int t = 0; t < 4; t++) {
            for (int u = 0; u < 4; u++) {
                all.add((long) x.ofScript(t, u, false, 0));
                all.add((long) x.ofScript(t, u, false, 3));
                all.add((long) x.ofScript(t, u, true, 0));
                all.add((long) x.moves(t, u));
            }
        }
        for (int t = 0; t < 4; t++) {
            all.add((long) x.fault(t));
        }
        for (int h = 0; h < x.house(5); h++) {
            for (int what = 0; what < 5; what++) {
                all.add((long) x.ofHunk(h, what));
            }
            all.add((long) x.hunk(h).length());
        }
        all.add((long) x.wouldJoin(0, 1, 2));
        for (int q = 0; q < x.house(7); q++) {
            for (int what = 0; what < 5; what++) {
                all.add((long) x.quarrel(q, what));
            }
        }
        for (int v = 0; v < x.house(8); v++) {
            for (int what = 0; what < 4; what++) {
                all.add((long) x.ofVersion(v, what));
            }
            for (int k = 0; k < x.ofVersion(v, 0); k++) {
                all.add((long) x.blame(v, k, false));
                all.add((long) x.blame(v, k, true));
            }
        }
        all.add(x.isSound() ? 1L : 0L);
        return all;
    }

    /** The whole sum, without a limit. */
    private static BigInteger sum(Lineseam x) {
        BigInteger d = BigInteger.valueOf(5400);
        for (long v : values(x)) {
            d = d.multiply(BigInteger.valueOf(31)).add(BigInteger.valueOf(v));
        }
        return d;
    }

    private static void digest() {
        Edge.of("P45 of an object to which nothing was done: each row has its place, though most are empty");
        Edge.unchanged(sum(new Lineseam()).longValue(), Edge::empty, x -> x.digest());

        Edge.of("P45 of an object with some of everything");
        Edge.unchanged(sum(Edge.busy()).longValue(), Edge::busy, x -> x.digest());

        Edge.of("P45 of an object that is full");
        Edge.unchanged(sum(Edge.full()).longValue(), Edge::full, x -> x.digest());

        Edge.of("P45 LOOSE of 0, not EXACT: of TEXTS that are only LIKE LOOSELY; and moves() of TEXTS that have some");
        Supplier<Lineseam> alike = () -> Edge.with("a b| |c", "ab||c ", "c|ab|a b", " c|a b|b");
        Edge.due("0 3", alike.get().ofScript(0, 1, false, 0) + " " + alike.get().ofScript(0, 1, true, 0));
        Edge.due(1, alike.get().moves(0, 2));
        Edge.unchanged(sum(alike.get()).longValue(), alike, x -> x.digest());

        Edge.of("P45 NONE is -1 also in it: without a CURSOR, and with a PATCH TEXT that has no FAULT");
        Edge.let(sum(Edge.with("@0,0,0,1|+")).longValue(), () -> Edge.with("@0,0,0,1|+"), x -> x.digest());

        Edge.of("P45 one more knock is one more at its place alone: each later value is as it was");
        Edge.let(sum(new Lineseam()).add(aKnock()).longValue(), Edge::empty, x -> x.knock() == 1 ? x.digest() : 0);
    }

    /** How much more the sum of an object without LINES is by one knock: the tenth value of all. */
    private static BigInteger aKnock() {
        return BigInteger.valueOf(31).pow(values(new Lineseam()).size() - 10);
    }

    private static void wrapAround() {
        Edge.of("P45 d wraps around as a 64-bit integer: it is what is left of a sum that is far greater");
        BigInteger whole = sum(new Lineseam());
        Edge.due(true, whole.bitLength() > 400);
        Edge.due(whole.longValue(), new Lineseam().digest());

        Edge.of("P45 d wraps around: it may be below 0 too");
        boolean isBelow = false;
        boolean isAbove = false;
        for (int knocks = 0; knocks < 20; knocks++) {
            long due = sum(knocked(knocks)).longValue();
            Edge.due(due, knocked(knocks).digest());
            isBelow |= due < 0;
            isAbove |= due > 0;
        }
        Edge.due("true true", isBelow + " " + isAbove);
    }

    private static Lineseam knocked(int often) {
        Lineseam x = new Lineseam();
        for (int k = 0; k < often; k++) {
            x.knock();
        }
        return x;
    }

    private static void calls() {
        Edge.of("0 an object is used for at most 512 calls: the last one is answered as well");
        Edge.due(512, knocked(511).knock());
        BigInteger knocks = aKnock().multiply(BigInteger.valueOf(511));
        Edge.due(sum(new Lineseam()).add(knocks).longValue(), knocked(511).digest());

        Edge.of("0 512 calls, of which each brings a LINE that was not there");
        Lineseam y = new Lineseam();
        for (int k = 0; k < 128; k++) {
            // Four calls each: a sign more (or less) in the DRAFT, the LINE, and room for the next one.
            Edge.due(k % 12 + 1, y.sign(k % 23));
            Edge.due(k, y.put(0, 0));
            Edge.due(0, y.cut(0, 0, 1));
            y.erase(k % 12 == 11 ? 12 : 0);
        }

        Edge.of("0 what is only asked changes nothing");
        for (int k = 0; k < 2; k++) {
            Supplier<Lineseam> made = k == 0 ? Edge::busy : Edge::full;
            Edge.unchanged(true, made, z -> {
                for (int t = 0; t < 4; t++) {
                    for (int u = 0; u < 4; u++) {
                        z.script(t, u, true);
                        z.script(t, u, false);
                        z.moves(t, u);
                        z.ofScript(t, u, true, 3);
                        z.ofScript(t, u, false, 4);
                        z.wouldJoin(t, u, 0);
                    }
                    z.fault(t);
                    z.whole(t);
                }
                z.line(0, 0);
                z.ofLine(0, 0, 2);
                z.within(0, 0, 0, 1);
                z.blame(z.house(8) - 1, 0, true);
                z.ofVersion(0, 3);
                z.cursor(1);
                z.draft();
                for (int h = 0; h < z.house(5); h++) {
                    z.ofHunk(h, 1);
                    z.hunk(h);
                }
                for (int q = 0; q < z.house(7); q++) {
                    z.quarrel(q, 4);
                }
                z.digest();
                return z.isSound();
            });
        }
    }
}
