/** Section 1 and promises 1 to 13: a test for each sentence that names a boundary case. */
public final class LinesEdgeTest {
    private LinesEdgeTest() {
    }

    public static void main(String[] args) {
        signs();
        texts();
        numbers();
        looseness();
        newObject();
        sign();
        erase();
        draft();
        put();
        add();
        change();
        cut();
        copy();
        carry();
        line();
        ofLine();
        whole();
        Edge.end("LinesEdgeTest");
    }

    // ---- section 1

    private static void signs() {
        Edge.of("1 SIGNS: 0 to 7 'a' to 'h', 8 a blank, 9 to 18 '0' to '9', 19 '@', 20 ',', 21 '+', 22 '-'");
        String due = "abcdefgh 0123456789@,+-";
        for (int s = 0; s < 23; s++) {
            int sign = s;
            Edge.let(due.charAt(s), Edge::empty, x -> x.sign(sign) == 1 ? x.draft() : "");
        }

        Edge.of("1 a LINE is a row of signs, 16 at most: one of 16 comes in, and stands whole");
        Edge.let("++++abcdefgh 012", LinesEdgeTest::sixteen, x -> x.line(0, 0));
        Edge.let(16, LinesEdgeTest::sixteen, x -> x.ofLine(0, 0, 3));
        Edge.let("++++abcdefgh 012", LinesEdgeTest::sixteen, x -> x.whole(0));

        Edge.of("1 a LINE is a row of signs, 16 at most, or none: the LINE of none is one like others");
        Edge.let("|", () -> Edge.with("|"), x -> x.whole(0));
        Edge.let(2, () -> Edge.with("|"), x -> x.house(0));
        Edge.let(1, () -> Edge.with("|"), x -> x.house(4));
        Edge.let(0, () -> Edge.with("|"), x -> x.ofLine(0, 1, 3));
        Edge.let("-=", () -> Edge.with("a|", ""), x -> x.script(0, 1, false));

        Edge.of("1 LINES that differ in the last of 16 signs are unlike ones");
        Lineseam x = sixteen();
        x.keep(0);
        Edge.set(x, 0, "abcdefgh 013");
        grow(x, 16);
        Edge.due("++++abcdefgh 013", x.line(0, 0));
        x.asOf(1, 0);
        Edge.due("-+", x.script(0, 1, false));
        Edge.due(false, x.ofLine(0, 0, 0) == x.ofLine(1, 0, 0));

        Edge.of("1 LINES of which one is the other's beginning are unlike ones");
        Edge.let("--++", () -> Edge.with("abcdefgh|abcdefgh0", "abcdefg|abcdefgh1"), y -> y.script(0, 1, false));
        Edge.let("=-+", () -> Edge.with("abcdefgh|abcdefgh0", "abcdefgh|abcdefgh1"), y -> y.script(0, 1, true));

        Edge.of("1 the DRAFT is a row of signs, 12 at most (none at first)");
        Edge.let("", Edge::empty, y -> y.draft());
        Edge.let("abcdefgh 012", () -> Edge.type(Edge.empty(), "abcdefgh 012"), y -> y.draft());

        Edge.of("1 the WORD w (0 to 25) is the LINE of one sign 'a' (0) to 'z' (25)");
        for (int w = 0; w < 26; w++) {
            int word = w;
            Edge.let((char) ('a' + w), Edge::empty, y -> y.add(0, 0, word) == 0 ? y.line(0, 0) : "");
        }
    }

    /** The TEXT 0 has one LINE, of 16 signs. */
    private static Lineseam sixteen() {
        Lineseam x = Edge.with("abcdefgh 012");
        grow(x, 16);
        return x;
    }

    /** The TEXT 0 has 30 LINES, the last of them like no other one. */
    private static Lineseam thirty() {
        Lineseam x = new Lineseam();
        Edge.words(x, 0, 29);
        x.put(0, 29);
        return x;
    }

    /** The LINE of the TEXT 0 gets "+" ahead till it has so many signs; the TEXTS 1 and 3 are empty behind it. */
    private static void grow(Lineseam x, int signs) {
        x.cut(3, 0, x.house(3));
        for (int k = x.ofLine(0, 0, 3); k < signs; k++) {
            x.patch(3, 0, 0);
            x.write(1);
            x.cut(1, 0, 1);
            x.copy(0, 1);
        }
        x.cut(1, 0, x.house(1));
    }

    private static void texts() {
        Edge.of("1 there are four TEXTS, 0 to 3, none the other");
        Edge.let("a/b/c/d", () -> Edge.with("a", "b", "c", "d"),
                x -> x.whole(0) + "/" + x.whole(1) + "/" + x.whole(2) + "/" + x.whole(3));

        Edge.of("1 each of at most 30 LINES (none at first)");
        for (int t = 0; t < 4; t++) {
            int text = t;
            Edge.let(0, Edge::empty, x -> x.house(text));
            Edge.let(30, () -> Edge.empty(), x -> {
                Edge.words(x, text, 30);
                return x.house(text);
            });
            Edge.refused(Edge.STATE, () -> {
                Lineseam x = new Lineseam();
                Edge.words(x, text, 30);
                return x;
            }, x -> x.put(text, 0));
        }

        Edge.of("1 a LINE that comes in at a PLACE moves those there and behind by one");
        Edge.let("n|a|b|c", () -> Edge.with("a|b|c"), x -> x.add(0, 0, 13) < 0 ? "" : x.whole(0));
        Edge.let("a|b|n|c", () -> Edge.with("a|b|c"), x -> x.add(0, 2, 13) < 0 ? "" : x.whole(0));
        Edge.let("a|b|c|n", () -> Edge.with("a|b|c"), x -> x.add(0, 3, 13) < 0 ? "" : x.whole(0));
    }

    private static void numbers() {
        Edge.of("1 a NUMBER from the time on at which it first comes into a TEXT: the DRAFT alone has none");
        Edge.let(0, () -> Edge.type(Edge.empty(), "abc"), x -> x.house(4));

        Edge.of("1 a NUMBER from the time on at which it first comes into a TEXT: in the PATCH alone it has none");
        Edge.let(2, () -> reading("@0,0,0,1|+g"), x -> x.house(4));
        Edge.let(2, () -> reading("@0,0,0,1|+g"), x -> x.add(2, 0, 0));
        Edge.let("1 2", () -> reading("@0,0,0,1|+g"), x -> x.lay(3, 0) + " " + x.ofLine(3, 0, 0));

        Edge.of("1 a NUMBER at which it first comes into a TEXT: at once, whichever call brings it");
        Edge.let("0 1", Edge::empty, x -> x.put(3, 0) + " " + x.house(4));
        Edge.let("0 1", Edge::empty, x -> x.add(3, 0, 5) + " " + x.house(4));
        Edge.let("0 2 1", () -> Edge.with("a"), x -> x.change(0, 0) + " " + x.house(4) + " " + x.ofLine(0, 0, 0));
        Edge.let("0 0 2 1", () -> walking("a"), x -> x.forth() + " " + x.mend(1) + " " + x.house(4) + " "
                + x.ofLine(0, 0, 0));
        Edge.let("0 2 1", () -> walking("a"), x -> x.slip(1) + " " + x.house(4) + " " + x.ofLine(0, 0, 0));
        Edge.let("1 2 3 1 2", () -> Edge.with("a"), x -> x.patch(0, 1, 0) + " " + x.write(2) + " " + x.house(4) + " "
                + x.ofLine(2, 0, 0) + " " + x.ofLine(2, 1, 0));
        Edge.let("1 3 2", () -> reading("@0,0,0,1|+g"), x -> x.lay(2, 0) + " " + x.house(4) + " " + x.ofLine(2, 0, 0));

        Edge.of("1 equal LINES have the same NUMBER, also a WORD and a DRAFT, and in other TEXTS");
        Edge.let(0, () -> Edge.type(Edge.with("a"), "a"), x -> x.put(3, 0));
        Edge.let(0, () -> Edge.type(Edge.with("a"), "a"), x -> x.add(0, 1, 0));

        Edge.of("1 LINES that are only LIKE LOOSELY have NUMBERS of their own");
        Edge.let(4, () -> Edge.with("ab|a b| ab|ab "), x -> x.house(4));
        Edge.let(0, () -> Edge.with(" | a"), x -> x.ofLine(0, 0, 0));
        Edge.let(2, () -> Edge.with(" | a"), x -> x.add(1, 0, 0));

        Edge.of("1 the smallest from 0 on that no LINE has: one after the other");
        for (int k = 0; k < 26; k++) {
            int many = k;
            Edge.let(k, () -> {
                Lineseam x = new Lineseam();
                Edge.words(x, 0, many);
                return x;
            }, x -> x.add(1, 0, many));
        }

        Edge.of("1 it keeps it for ever: also when it is in no TEXT, no other one gets it");
        Edge.let("1 0", () -> Edge.with("a"), x -> {
            x.cut(0, 0, 1);
            return x.add(0, 0, 1) + " " + x.add(0, 0, 0);
        });

        Edge.of("1 if several come by one call, they get it in the order in which they stand in the TEXT then");
        Edge.let("1: 4 5 6", () -> reading("@0,0,0,3|+c|+b|+a"),
                x -> x.lay(1, 0) + ": " + x.ofLine(1, 0, 0) + " " + x.ofLine(1, 1, 0) + " " + x.ofLine(1, 2, 0));

        Edge.of("1 of several that come by one call, one that is there twice has one NUMBER");
        Edge.let("1: 3 4 3", () -> reading("@0,0,0,3|+c|+b|+c"),
                x -> x.lay(1, 0) + ": " + x.ofLine(1, 0, 0) + " " + x.ofLine(1, 1, 0) + " " + x.ofLine(1, 2, 0));

        Edge.of("1 a LINE that a refused call would have brought has no NUMBER");
        Edge.let("throws IllegalStateException 26 26", Edge::full,
                x -> Edge.outcome(x, y -> y.put(0, 0)) + " " + x.house(4) + " " + x.put(1, 0));
    }

    /** The CURSOR is ahead of these LINES of the TEXT 0. */
    private static Lineseam walking(String rows) {
        Lineseam x = Edge.with(rows);
        x.walk(0);
        return x;
    }

    /** The TEXT 0 has these LINES, and was read. */
    private static Lineseam reading(String rows) {
        Lineseam x = Edge.with(rows);
        x.read(0);
        return x;
    }

    private static void looseness() {
        Edge.of("1 two LINES are LIKE LOOSELY, if they are equal without all blanks: ahead, between, behind, many");
        for (String row : new String[] {"ab", " ab", "a b", "ab ", "  a    b   "}) {
            Edge.let("=", () -> Edge.with("ab", row), x -> x.script(0, 1, true));
            Edge.let("=", () -> Edge.with("a b", row), x -> x.script(0, 1, true));
        }

        Edge.of("1 LIKE LOOSELY: one of blanks alone is like one without signs");
        Edge.let("=", () -> Edge.with("            ", ""), x -> x.script(0, 1, true));
        Edge.let("-+", () -> Edge.with("            ", ""), x -> x.script(0, 1, false));

        Edge.of("1 not LIKE LOOSELY, if more than blanks differs");
        Edge.let("-+", () -> Edge.with("a b", "b a"), x -> x.script(0, 1, true));
        Edge.let("-+", () -> Edge.with("a b", "a,b"), x -> x.script(0, 1, true));
        Edge.let("-+", () -> Edge.with("a ", "aa"), x -> x.script(0, 1, true));
        Edge.let("-+", () -> Edge.with(" ", "0"), x -> x.script(0, 1, true));
    }

    // ---- promises 1 to 13

    private static void newObject() {
        Edge.of("P1 creates four empty texts, and nothing else is there");
        for (int what = 0; what < 10; what++) {
            int asked = what;
            Edge.let(0, Edge::empty, x -> x.house(asked));
        }
        for (int text = 0; text < 4; text++) {
            int asked = text;
            Edge.let("", Edge::empty, x -> x.whole(asked));
        }

        Edge.of("P1 two objects have nothing in common");
        Lineseam one = new Lineseam();
        Lineseam two = new Lineseam();
        one.add(0, 0, 3);
        one.sign(0);
        one.keep(0);
        one.knock();
        Edge.due(Edge.readOut(new Lineseam()), Edge.readOut(two));
    }

    private static void sign() {
        Edge.of("P2 IllegalArgumentException if sign is not 0 to 22");
        Edge.bounds(Edge.ARGUMENT, Edge::empty, 0, 1, 22, 1, s -> x -> x.sign(s));
        Edge.bounds(Edge.ARGUMENT, Edge::busy, 0, 4, 22, 4, s -> x -> x.sign(s));

        Edge.of("P2 IllegalStateException if the DRAFT has 12");
        Edge.let("12 abcdefgh 01-", Edge::almostFull, x -> x.sign(22) + " " + x.draft());
        Edge.refused(Edge.STATE, () -> Edge.type(Edge.empty(), "abcdefgh 012"), x -> x.sign(0));
        Edge.refused(Edge.STATE, Edge::full, x -> x.sign(22));

        Edge.of("P2 of both exceptions the IllegalArgumentException is thrown");
        Edge.refused(Edge.ARGUMENT, Edge::full, x -> x.sign(-1));
        Edge.refused(Edge.ARGUMENT, Edge::full, x -> x.sign(23));

        Edge.of("P2 a sign comes to the end of the DRAFT");
        Edge.let("a 0b", Edge::busy, x -> x.sign(1) == 4 ? x.draft() : "");
    }

    private static void erase() {
        Edge.of("P3 IllegalArgumentException if many is below 0");
        Edge.let(3, Edge::busy, x -> x.erase(0));
        Edge.refused(Edge.ARGUMENT, Edge::busy, x -> x.erase(-1));
        Edge.refused(Edge.ARGUMENT, Edge::busy, x -> x.erase(Edge.MIN));
        Edge.refused(Edge.ARGUMENT, Edge::empty, x -> x.erase(-1));

        Edge.of("P3 signs go from the end: none, all but one, just all");
        Edge.unchanged(3, Edge::busy, x -> x.erase(0));
        Edge.let("1 a", Edge::busy, x -> x.erase(2) + " " + x.draft());
        Edge.let("0 ", Edge::busy, x -> x.erase(3) + " " + x.draft());

        Edge.of("P3 all, if there are fewer");
        Edge.let("0 ", Edge::busy, x -> x.erase(4) + " " + x.draft());
        Edge.let("0 ", Edge::full, x -> x.erase(Edge.MAX) + " " + x.draft());
        Edge.unchanged(0, Edge::empty, x -> x.erase(1));
        Edge.unchanged(0, Edge::empty, x -> x.erase(Edge.MAX));

        Edge.of("P3 behind it the DRAFT takes signs again, 12 at most");
        Edge.let("11 12 throws IllegalStateException", Edge::full,
                x -> x.erase(1) + " " + x.sign(8) + " " + Edge.outcome(x, y -> y.sign(8)));
    }

    private static void draft() {
        Edge.of("P4 the DRAFT: none, and 12 signs");
        Edge.unchanged("", Edge::empty, x -> x.draft());
        Edge.unchanged("abcdefgh 012", Edge::full, x -> x.draft());
        Edge.unchanged("a 0", Edge::busy, x -> x.draft());
    }

    private static void put() {
        Edge.of("P5 IndexOutOfBoundsException if there is no such TEXT");
        Edge.texts(Edge::busy, 10, 10, t -> x -> x.put(t, 0));

        Edge.of("P5 IndexOutOfBoundsException if place is not 0 to how many LINES that has");
        Edge.bounds(Edge.INDEX, Edge::busy, 0, 10, 5, 10, p -> x -> x.put(0, p));
        Edge.bounds(Edge.INDEX, Edge::empty, 0, 0, 0, 0, p -> x -> x.put(2, p));
        Edge.let("a 0|a|b|c|d|e", Edge::busy, x -> x.put(0, 0) < 0 ? "" : x.whole(0));
        Edge.let("a|b|c|d|e|a 0", Edge::busy, x -> x.put(0, 5) < 0 ? "" : x.whole(0));

        Edge.of("P5 IllegalStateException if that has 30");
        Edge.refused(Edge.STATE, Edge::full, x -> x.put(0, 0));
        Edge.refused(Edge.STATE, Edge::full, x -> x.put(0, 30));
        Edge.let("26 30", Edge::almostFull, x -> x.put(0, 0) + " " + x.house(0));
        Edge.let("26 30", Edge::almostFull, x -> x.put(0, 29) + " " + x.house(0));

        Edge.of("P5 of both exceptions the IndexOutOfBoundsException is thrown");
        Edge.refused(Edge.INDEX, Edge::full, x -> x.put(0, 31));
        Edge.refused(Edge.INDEX, Edge::full, x -> x.put(0, -1));

        Edge.of("P5 the DRAFT comes in without signs, and with 12");
        Edge.let("0 ", Edge::empty, x -> x.put(0, 0) + " " + x.line(0, 0));
        Edge.let("26 abcdefgh 012", Edge::full, x -> x.put(3, 0) + " " + x.line(3, 0));

        Edge.of("P5 the DRAFT stays");
        Edge.let("a 0", Edge::busy, x -> x.put(0, 0) < 0 ? "" : x.draft());
    }

    private static void add() {
        Edge.of("P6 IndexOutOfBoundsException if there is no such TEXT");
        Edge.texts(Edge::busy, 0, 0, t -> x -> x.add(t, 0, 0));

        Edge.of("P6 IndexOutOfBoundsException if place is not 0 to how many LINES that has");
        Edge.bounds(Edge.INDEX, Edge::busy, 0, 0, 5, 0, p -> x -> x.add(0, p, 0));
        Edge.bounds(Edge.INDEX, Edge::empty, 0, 0, 0, 0, p -> x -> x.add(2, p, 9));

        Edge.of("P6 IllegalArgumentException if word is not 0 to 25");
        Edge.bounds(Edge.ARGUMENT, Edge::busy, 0, 0, 25, 7, w -> x -> x.add(0, 1, w));

        Edge.of("P6 IllegalStateException if that has 30");
        Edge.refused(Edge.STATE, Edge::full, x -> x.add(0, 0, 0));
        Edge.refused(Edge.STATE, Edge::full, x -> x.add(0, 30, 25));
        Edge.let("0 30", Edge::almostFull, x -> x.add(0, 0, 0) + " " + x.house(0));
        Edge.let("25 30", Edge::almostFull, x -> x.add(0, 29, 25) + " " + x.house(0));

        Edge.of("P6 of several exceptions the one that is named first is thrown");
        Edge.refused(Edge.INDEX, Edge::full, x -> x.add(4, 0, 26));
        Edge.refused(Edge.INDEX, Edge::full, x -> x.add(0, 31, 26));
        Edge.refused(Edge.INDEX, Edge::full, x -> x.add(0, 31, 0));
        Edge.refused(Edge.INDEX, Edge::busy, x -> x.add(0, -1, -1));
        Edge.refused(Edge.ARGUMENT, Edge::full, x -> x.add(0, 30, 26));
        Edge.refused(Edge.ARGUMENT, Edge::full, x -> x.add(0, 0, -1));
    }

    private static void change() {
        Edge.of("P7 IndexOutOfBoundsException if there is no such TEXT");
        Edge.texts(Edge::busy, 0, 0, t -> x -> x.change(t, 0));

        Edge.of("P7 IndexOutOfBoundsException if there is no such LINE");
        Edge.bounds(Edge.INDEX, Edge::busy, 0, 0, 4, 4, p -> x -> x.change(0, p));
        Edge.refused(Edge.INDEX, Edge::empty, x -> x.change(0, 0));
        Edge.bounds(Edge.INDEX, Edge::full, 0, 0, 29, 3, p -> x -> x.change(0, p));

        Edge.of("P7 a LINE becomes like the DRAFT, also one without signs, also in a TEXT of 30");
        Edge.let("1 a||c", () -> Edge.with("a|b|c"), x -> x.change(0, 1) + " " + x.whole(0));
        Edge.let("3 30 abcdefgh 012", Edge::full, x -> x.change(0, 29) + " " + x.house(0) + " " + x.line(0, 29));

        Edge.of("P7 the NUMBER that was there, also when the LINE is like the DRAFT already");
        Edge.let("0 1 0", () -> Edge.type(Edge.with("a"), "b"),
                x -> x.change(0, 0) + " " + x.change(0, 0) + " " + x.add(0, 0, 0));

        Edge.of("P7 the DRAFT stays");
        Edge.let("a 0", Edge::busy, x -> x.change(0, 0) < 0 ? "" : x.draft());
    }

    private static void cut() {
        Edge.of("P8 IndexOutOfBoundsException if there is no such TEXT");
        Edge.texts(Edge::busy, 4, 5, t -> x -> x.cut(t, 0, 1));
        Edge.refused(Edge.INDEX, Edge::empty, x -> x.cut(4, 0, 0));

        Edge.of("P8 IndexOutOfBoundsException if from is below 0");
        Edge.let("3 c|d|e", Edge::busy, x -> x.cut(0, 0, 2) + " " + x.whole(0));
        Edge.refused(Edge.INDEX, Edge::busy, x -> x.cut(0, -1, 2));
        Edge.refused(Edge.INDEX, Edge::busy, x -> x.cut(0, -1, -1));
        Edge.refused(Edge.INDEX, Edge::busy, x -> x.cut(0, Edge.MIN, 5));

        Edge.of("P8 IndexOutOfBoundsException if to is above how many LINES that has");
        Edge.let("3 a|b|c", Edge::busy, x -> x.cut(0, 3, 5) + " " + x.whole(0));
        Edge.refused(Edge.INDEX, Edge::busy, x -> x.cut(0, 3, 6));
        Edge.refused(Edge.INDEX, Edge::busy, x -> x.cut(0, 6, 6));
        Edge.refused(Edge.INDEX, Edge::busy, x -> x.cut(0, 0, Edge.MAX));
        Edge.refused(Edge.INDEX, Edge::empty, x -> x.cut(0, 0, 1));

        Edge.of("P8 IndexOutOfBoundsException if from is above to");
        Edge.let("5 a|b|c|d|e", Edge::busy, x -> x.cut(0, 3, 3) + " " + x.whole(0));
        Edge.refused(Edge.INDEX, Edge::busy, x -> x.cut(0, 4, 3));
        Edge.refused(Edge.INDEX, Edge::busy, x -> x.cut(0, Edge.MAX, Edge.MIN));

        Edge.of("P8 from itself: none, ahead of all, behind all, and of a TEXT without LINES");
        Edge.let("5 a|b|c|d|e", Edge::busy, x -> x.cut(0, 0, 0) + " " + x.whole(0));
        Edge.let("5 a|b|c|d|e", Edge::busy, x -> x.cut(0, 5, 5) + " " + x.whole(0));
        Edge.let("0 ", Edge::empty, x -> x.cut(0, 0, 0) + " " + x.whole(0));

        Edge.of("P8 all LINES go, also 30");
        Edge.let("0 ", Edge::busy, x -> x.cut(0, 0, 5) + " " + x.whole(0));
        Edge.let("0 ", Edge::full, x -> x.cut(0, 0, 30) + " " + x.whole(0));
    }

    private static void copy() {
        Edge.of("P9 IndexOutOfBoundsException if there is no such TEXT (the one)");
        Edge.texts(Edge::busy, 6, 6, t -> x -> x.copy(t, 2));

        Edge.of("P9 IndexOutOfBoundsException if there is no such TEXT (the other one)");
        Edge.texts(Edge::busy, 5, 6, t -> x -> x.copy(1, t));
        Edge.refused(Edge.INDEX, Edge::busy, x -> x.copy(4, 4));

        Edge.of("P9 or the same: it is as it was");
        Edge.let("6 a|z|c|q|e|f", Edge::busy, x -> x.copy(2, 2) + " " + x.whole(2));
        Edge.let("0 ", Edge::empty, x -> x.copy(0, 0) + " " + x.whole(0));
        Edge.let(30, Edge::full, x -> x.copy(0, 0));

        Edge.of("P9 of a TEXT without LINES, and of one of 30");
        Edge.let("0 ", Edge::full, x -> x.copy(0, 1) + " " + x.whole(0));
        Edge.let("30 true", Edge::full, x -> x.copy(1, 0) + " " + x.whole(1).equals(x.whole(0)));

        Edge.of("P9 behind it the two have nothing in common");
        Edge.let("c|d|e/b|c|d|e", Edge::busy, x -> {
            x.copy(1, 0);
            x.cut(0, 0, 1);
            x.copy(3, 0);
            x.cut(3, 0, 1);
            return x.whole(3) + "/" + x.whole(0);
        });
    }

    private static void carry() {
        Edge.of("P10 IndexOutOfBoundsException if there is no such TEXT");
        Edge.texts(Edge::busy, 1, 1, t -> x -> x.carry(t, 0, 1));
        Edge.refused(Edge.INDEX, Edge::empty, x -> x.carry(4, 0, 0));

        Edge.of("P10 IndexOutOfBoundsException if from is below 0");
        Edge.let("2 c|d|e|a|b", Edge::busy, x -> x.carry(0, 0, 2) + " " + x.whole(0));
        Edge.refused(Edge.INDEX, Edge::busy, x -> x.carry(0, -1, 2));
        Edge.refused(Edge.INDEX, Edge::busy, x -> x.carry(0, -1, -1));
        Edge.refused(Edge.INDEX, Edge::busy, x -> x.carry(0, Edge.MIN, 5));

        Edge.of("P10 IndexOutOfBoundsException if to is above how many LINES that has");
        Edge.let("2 a|b|c|d|e", Edge::busy, x -> x.carry(0, 3, 5) + " " + x.whole(0));
        Edge.refused(Edge.INDEX, Edge::busy, x -> x.carry(0, 3, 6));
        Edge.refused(Edge.INDEX, Edge::busy, x -> x.carry(0, 6, 6));
        Edge.refused(Edge.INDEX, Edge::busy, x -> x.carry(0, 0, Edge.MAX));
        Edge.refused(Edge.INDEX, Edge::empty, x -> x.carry(0, 0, 1));

        Edge.of("P10 IndexOutOfBoundsException if from is above to");
        Edge.let("1 a|b|d|e|c", Edge::busy, x -> x.carry(0, 2, 3) + " " + x.whole(0));
        Edge.refused(Edge.INDEX, Edge::busy, x -> x.carry(0, 4, 3));
        Edge.refused(Edge.INDEX, Edge::busy, x -> x.carry(0, Edge.MAX, Edge.MIN));

        Edge.of("P10 from itself: none, ahead of all, behind all, and of a TEXT without LINES");
        Edge.let("0 a|b|c|d|e", Edge::busy, x -> x.carry(0, 0, 0) + " " + x.whole(0));
        Edge.let("0 a|b|c|d|e", Edge::busy, x -> x.carry(0, 5, 5) + " " + x.whole(0));
        Edge.let("0 ", Edge::empty, x -> x.carry(0, 0, 0) + " " + x.whole(0));

        Edge.of("P10 all LINES of a TEXT, also 30: it is as it was");
        Edge.let("5 a|b|c|d|e", Edge::busy, x -> x.carry(0, 0, 5) + " " + x.whole(0));
        Edge.let("30 true", Edge::full, x -> {
            String was = x.whole(0);
            return x.carry(0, 0, 30) + " " + x.whole(0).equals(was);
        });

        Edge.of("P10 of a TEXT of 30 one goes to the end");
        Edge.let("1 30 b a", Edge::full,
                x -> x.carry(0, 0, 1) + " " + x.house(0) + " " + x.line(0, 0) + " " + x.line(0, 29));
    }

    private static void line() {
        Edge.of("P11 IndexOutOfBoundsException if there is no such TEXT");
        Edge.texts(Edge::busy, "a", "a", t -> x -> x.line(t, 0));

        Edge.of("P11 IndexOutOfBoundsException if there is no such LINE");
        Edge.bounds(Edge.INDEX, Edge::busy, 0, "a", 4, "e", p -> x -> x.line(0, p));
        Edge.bounds(Edge.INDEX, Edge::full, 0, "a", 29, "d", p -> x -> x.line(0, p));
        Edge.refused(Edge.INDEX, Edge::empty, x -> x.line(0, 0));

        Edge.of("P11 a LINE without signs, one of a blank, one of 12 signs");
        Edge.unchanged("", () -> Edge.with("| |abcdefgh 012"), x -> x.line(0, 0));
        Edge.unchanged(" ", () -> Edge.with("| |abcdefgh 012"), x -> x.line(0, 1));
        Edge.unchanged("abcdefgh 012", () -> Edge.with("| |abcdefgh 012"), x -> x.line(0, 2));
    }

    private static void ofLine() {
        Edge.of("P12 IndexOutOfBoundsException if there is no such TEXT");
        Edge.texts(Edge::busy, 0, 0, t -> x -> x.ofLine(t, 0, 0));

        Edge.of("P12 IndexOutOfBoundsException if there is no such LINE");
        Edge.bounds(Edge.INDEX, Edge::busy, 0, 0, 4, 4, p -> x -> x.ofLine(0, p, 0));
        Edge.bounds(Edge.INDEX, Edge::full, 0, 26, 29, 29, p -> x -> x.ofLine(0, p, 2));
        Edge.refused(Edge.INDEX, Edge::empty, x -> x.ofLine(0, 0, 0));

        Edge.of("P12 IllegalArgumentException if what is not 0 to 3");
        Edge.bounds(Edge.ARGUMENT, Edge::busy, 0, 7, 3, 1, w -> x -> x.ofLine(2, 1, w));

        Edge.of("P12 of both exceptions the IndexOutOfBoundsException is thrown");
        Edge.refused(Edge.INDEX, Edge::busy, x -> x.ofLine(4, 0, 4));
        Edge.refused(Edge.INDEX, Edge::busy, x -> x.ofLine(0, 5, -1));
        Edge.refused(Edge.INDEX, Edge::empty, x -> x.ofLine(0, 0, 4));

        Edge.of("P12 the first PLACE and the last one with an equal LINE: itself, if it is the only one");
        Edge.let("1 1", () -> Edge.with("a|b|a"), x -> x.ofLine(0, 1, 1) + " " + x.ofLine(0, 1, 2));
        Edge.let("0 0", () -> Edge.with("b|a|a"), x -> x.ofLine(0, 0, 1) + " " + x.ofLine(0, 0, 2));
        Edge.let("2 2", () -> Edge.with("a|a|b"), x -> x.ofLine(0, 2, 1) + " " + x.ofLine(0, 2, 2));
        Edge.let("29 29", () -> thirty(), x -> x.ofLine(0, 29, 1) + " " + x.ofLine(0, 29, 2));

        Edge.of("P12 the first PLACE and the last one: the ends of the TEXT, from each of them");
        for (int place : new int[] {0, 2, 4}) {
            Edge.let("0 4", () -> Edge.with("a|b|a|b|a"), x -> x.ofLine(0, place, 1) + " " + x.ofLine(0, place, 2));
        }

        Edge.of("P12 an equal LINE, not one that is LIKE LOOSELY, nor one of another TEXT");
        Edge.let("1 1", () -> Edge.with("a |a| a", "a"), x -> x.ofLine(0, 1, 1) + " " + x.ofLine(0, 1, 2));

        Edge.of("P12 how many signs: 0, and 12");
        Edge.let(0, () -> Edge.with("|abcdefgh 012"), x -> x.ofLine(0, 0, 3));
        Edge.let(12, () -> Edge.with("|abcdefgh 012"), x -> x.ofLine(0, 1, 3));
    }

    private static void whole() {
        Edge.of("P13 IndexOutOfBoundsException if there is no such TEXT");
        Edge.texts(Edge::busy, "a|b|c|d|e", "a|x|c|y|e|f", t -> x -> x.whole(t));

        Edge.of("P13 '' without any; one LINE has no '|'");
        Edge.unchanged("", Edge::empty, x -> x.whole(0));
        Edge.unchanged("a", () -> Edge.with("a"), x -> x.whole(0));

        Edge.of("P13 LINES without signs: '' for one, '|' for two");
        Edge.unchanged("", () -> Edge.with(""), x -> x.whole(0));
        Edge.unchanged("|", () -> Edge.with("|"), x -> x.whole(0));

        Edge.of("P13 30 LINES of 16 signs");
        Lineseam x = sixteen();
        x.patch(3, 0, 0);
        for (int k = 0; k < 30; k++) {
            x.lay(1, 0);
        }
        Edge.due(30 * 16 + 29, x.whole(1).length());
        Edge.due("++++abcdefgh 012|++++abc", x.whole(1).substring(0, 24));
        Edge.due("h 012|++++abcdefgh 012", x.whole(1).substring(509 - 22));
    }
}
