import java.util.function.Supplier;

/** Section 3 and promises 26 to 34: a test for each sentence that names a boundary case. */
public final class PatchEdgeTest {
    private static final String STAYING = "a|b|c|d|e|f|g";

    private PatchEdgeTest() {
    }

    public static void main(String[] args) {
        hunksOfTexts();
        patchAndRefused();
        turned();
        heads();
        headNumbers();
        headsBehindOthers();
        marked();
        missing();
        places();
        fits();
        shift();
        refused();
        patch();
        turn();
        write();
        read();
        fault();
        lay();
        again();
        ofHunk();
        hunk();
        Edge.end("PatchEdgeTest");
    }

    private static String told(Lineseam x) {
        StringBuilder all = new StringBuilder();
        for (int h = 0; h < x.house(5); h++) {
            all.append(h > 0 ? " / " : "").append(x.ofHunk(h, 0)).append(' ').append(x.ofHunk(h, 2)).append(' ')
                    .append(x.hunk(h));
        }
        return all.toString();
    }

    /** The TEXT 0 becomes the TEXT 1 by this PATCH. */
    private static Supplier<Lineseam> patched(String first, String second, int context) {
        return () -> {
            Lineseam x = Edge.with(first, second);
            x.patch(0, 1, context);
            return x;
        };
    }

    /** 30 LINES in the TEXT 0, none like another one. */
    private static Lineseam thirty() {
        Lineseam x = new Lineseam();
        Edge.words(x, 0, 26);
        for (int k = 0; k < 4; k++) {
            x.sign(9);
            x.put(0, 26 + k);
        }
        return x;
    }

    /** The PATCH that this PATCH TEXT tells; then the TEXT 0 becomes these LINES. */
    private static Supplier<Lineseam> laying(String patch, String rows) {
        return () -> {
            Lineseam x = Edge.with(patch);
            Edge.due(-1, x.read(0));
            x.cut(0, 0, x.house(0));
            if (rows != null) {
                Edge.fill(x, 0, rows);
            }
            return x;
        };
    }

    private static void laid(String want, String patch, String rows, int give) {
        Edge.let(want, laying(patch, rows), x -> x.lay(0, give) + " " + x.whole(0));
    }

    // ---- section 3: HUNKS, PATCH, TURN

    private static void hunksOfTexts() {
        Edge.of("3 HUNKS: none, if nothing goes OUT or comes IN, with each CONTEXT");
        for (int c = 0; c <= 3; c++) {
            int context = c;
            Edge.let("0 ", Edge::empty, x -> x.patch(0, 1, context) + " " + told(x));
            Edge.let("0 ", Edge::full, x -> x.patch(0, 0, context) + " " + told(x));
        }

        Edge.of("3 CONTEXT 0: the steps OUT and IN alone");
        Edge.let("1 1 -x|+y", patched("a|x|b", "a|y|b", 0), x -> told(x));

        Edge.of("3 CONTEXT 1, 2 and 3: so many steps ahead and behind");
        String[] due = {"3 3 -x|+y", "2 2  c|-x|+y| d", "1 1  b| c|-x|+y| d| e", "0 0  a| b| c|-x|+y| d| e| f"};
        for (int c = 0; c <= 3; c++) {
            int context = c;
            Edge.let(due[c], patched("a|b|c|x|d|e|f", "a|b|c|y|d|e|f", context), x -> told(x));
        }
        Edge.let("1 1  b| c| d|-x|+y| e| f| g", patched("a|b|c|d|x|e|f|g|h", "a|b|c|d|y|e|f|g|h", 3), x -> told(x));

        Edge.of("3 fewer at the ends: none, and fewer than the CONTEXT");
        Edge.let("0 0 -x|+y", patched("x", "y", 3), x -> told(x));
        Edge.let("0 0  a|-x|+y| b", patched("a|x|b", "a|y|b", 3), x -> told(x));
        Edge.let("0 0 -x|+y| b", patched("x|b|c", "y|b|c", 1), x -> told(x));
        Edge.let("1 1  c|-x|+y", patched("b|c|x", "b|c|y", 1), x -> told(x));

        Edge.of("3 parted only where steps lie between that are not in: 2c STAY between, one HUNK; one more, two");
        for (int c = 0; c <= 3; c++) {
            int context = c;
            String two = STAYING.substring(0, c == 0 ? 0 : 4 * c - 1);
            String more = STAYING.substring(0, 4 * c + 1);
            if (c > 0) {
                Edge.let(1, () -> Edge.with("x|" + two + "|y", "p|" + two + "|q"), x -> x.patch(0, 1, context));
            }
            Edge.let(2, () -> Edge.with("x|" + more + "|y", "p|" + more + "|q"), x -> x.patch(0, 1, context));
        }
        Edge.let(1, () -> Edge.with("x|y", "p|q"), x -> x.patch(0, 1, 0));

        Edge.of("3 FROM and TO: 0 ahead of all, and 30 behind 30");
        Edge.let("0 0 +@ / 29 30 -0000", () -> {
            Lineseam x = thirty();
            x.copy(1, 0);
            x.cut(1, 29, 30);
            Edge.type(x, "@");
            x.put(1, 0);
            x.patch(0, 1, 0);
            return x;
        }, x -> told(x));
        Edge.let("0 0 -a / 30 29 +@", () -> {
            Lineseam x = thirty();
            x.copy(1, 0);
            x.cut(1, 0, 1);
            Edge.type(x, "@");
            x.put(1, 29);
            x.patch(0, 1, 0);
            return x;
        }, x -> told(x));

        Edge.of("3 a HUNK of 60 MARKED LINES: 30 go OUT, and 30 come IN");
        Lineseam x = thirty();
        for (int k = 0; k < 30; k++) {
            Edge.type(x, "@" + k);
            x.put(1, k);
        }
        Edge.due(1, x.patch(0, 1, 3));
        Edge.due("0 30 0 30 60", x.ofHunk(0, 0) + " " + x.ofHunk(0, 1) + " " + x.ofHunk(0, 2) + " " + x.ofHunk(0, 3)
                + " " + x.ofHunk(0, 4));
        Edge.due("-" + x.whole(0).replace("|", "|-") + "|+" + x.whole(1).replace("|", "|+"), x.hunk(0));
    }

    private static void patchAndRefused() {
        Edge.of("3 the PATCH is a row of HUNKS, none at first");
        Edge.let("0 ", Edge::empty, x -> x.house(5) + " " + told(x));

        Edge.of("3 none are REFUSED at first");
        Edge.let("0 0", Edge::empty, x -> x.house(6) + " " + x.again());
    }

    private static void turned() {
        Edge.of("3 to TURN: FROM and TO are exchanged, and '-' and '+', their order stays, ' ' stays");
        Edge.let("0 0 -p| a|+x|-y| b|+z", patched("a|x|b|z", "p|a|y|b", 1), x -> x.turn() == 2 ? told(x) : "");
        Edge.let("0 0 -p / 2 1 +x|-y / 4 3 +z", patched("a|x|b|z", "p|a|y|b", 0), x -> x.turn() == 2 ? told(x) : "");

        Edge.of("3 to TURN twice: as it was");
        Edge.unchanged("2 2", patched("a|x|b|z", "p|a|y|b", 0), x -> x.turn() + " " + x.turn());

        Edge.of("3 to TURN a PATCH without HUNKS");
        Edge.unchanged(0, Edge::empty, x -> x.turn());
    }

    // ---- section 3: FAULT

    private static void fault(int want, String rows) {
        Supplier<Lineseam> made = () -> {
            Lineseam x = Edge.with(rows, "n", "m|n");
            x.patch(1, 2, 0);
            return x;
        };
        Edge.unchanged(want, made, x -> x.fault(0));
        if (want != -1) {
            Edge.unchanged(want, made, x -> x.read(0));
        } else {
            Edge.let(-1, made, x -> x.read(0));
        }
    }

    private static void heads() {
        Edge.of("3 NONE, if it is a PATCH TEXT (so is a TEXT without LINES)");
        Edge.unchanged(-1, Edge::empty, x -> x.fault(0));
        fault(-1, "@0,1,0,0|-a");
        fault(-1, "@0,0,0,1|+a");
        fault(-1, "@0,1,0,1| a");

        Edge.of("3 first a HEAD has to come: other LINES are at FAULT, also one without signs");
        fault(0, "");
        fault(0, "a");
        fault(0, "@");
        fault(0, " a");
        fault(0, "-a");
        fault(0, "+a");
        fault(0, "0,1,0,0|-a");
        fault(0, " @0,1,0,0|-a");
        fault(0, "-@0,1,0,0|-a");

        Edge.of("3 whenever the HUNK ahead has all its LINES, a HEAD has to come");
        fault(2, "@0,1,0,0|-a|-a");
        fault(2, "@0,1,0,0|-a|");
        fault(2, "@0,0,0,1|+a|+a");
        fault(2, "@0,1,0,1| a| a");
        fault(3, "@0,1,0,1|-a|+a|a");

        Edge.of("3 no HEAD has to come, before the HUNK ahead has all its LINES");
        fault(1, "@0,1,0,0|@0,1,0,0");
        fault(2, "@0,1,0,1|-a|@1,1,1,1");

        Edge.of("3 four numbers, with ',' between, nothing behind: neither three nor five, none left out");
        fault(0, "@0,1,0|-a");
        fault(0, "@0,2,0|-a|-a");
        fault(0, "@0,2,0,|-a|-a");
        fault(0, "@0,2,0,a|-a|-a");
        fault(0, "@0,2|-a|-a");
        fault(0, "@2|-a|-a");
        fault(0, "@2,|-a|-a");
        fault(0, "@0,1,0,0,|-a");
        fault(0, "@0,1,0,0,0|-a");
        fault(0, "@0,1,0,|-a");
        fault(0, "@,1,0,0|-a");
        fault(0, "@0,,0,0|-a");
        fault(0, "@0,1,,0|-a");
        fault(0, "@,,,|-a");
        fault(0, "@0,1,0,0 |-a");
        fault(0, "@0,1,0,0a|-a");
        fault(0, "@0,1,0,00|-a");
        fault(0, "@0 ,1,0,0|-a");
        fault(0, "@ 0,1,0,0|-a");
        fault(0, "@@0,1,0,0|-a");
        fault(0, "@-0,1,0,0|-a");
        fault(0, "@0,+1,0,0|-a");
        fault(0, "@0+1+0+0|-a");
        fault(0, "@a,1,a,0|-a");
    }

    private static void headNumbers() {
        Edge.of("3 numbers of 0 to 30: FROM and TO");
        fault(-1, "@0,1,0,1| a");
        fault(-1, "@9,1,9,1| a");
        fault(-1, "@10,1,10,1| a");
        fault(-1, "@29,1,29,1| a");
        fault(-1, "@30,1,30,1| a");
        fault(0, "@31,1,31,1| a");
        fault(0, "@40,1,40,1| a");
        fault(0, "@99,1,99,1| a");
        fault(0, "@100,1,100,1| a");

        Edge.of("3 numbers of 0 to 30: TO alone above 30");
        fault(2, "@0,0,0,1|+a|@30,1,31,1| a");
        fault(-1, "@0,0,0,1|+a|@29,1,30,1| a");

        Edge.of("3 numbers of 0 to 30: FROM alone above 30");
        fault(2, "@0,1,0,0|-a|@31,1,30,1| a");
        fault(-1, "@0,1,0,0|-a|@30,1,29,1| a");

        Edge.of("3 numbers of 0 to 30: how many OLD has");
        fault(2, "@0,30,0,0|-a");
        fault(0, "@0,31,0,0|-a");
        fault(0, "@0,100,0,0|-a");

        Edge.of("3 numbers of 0 to 30: how many NEW has");
        fault(2, "@0,0,0,30|+a");
        fault(0, "@0,0,0,31|+a");
        fault(0, "@0,0,0,300|+a");

        Edge.of("3 without needless 0 ahead: each of the four");
        fault(0, "@00,1,0,1| a");
        fault(0, "@01,1,1,1| a");
        fault(0, "@0,01,0,1| a");
        fault(0, "@0,1,00,1| a");
        fault(0, "@1,1,01,1| a");
        fault(0, "@0,1,0,01| a");
        fault(0, "@09,1,9,1| a");
        fault(0, "@0,1,0,09|-a");
        fault(0, "@010,1,10,1| a");
        fault(0, "@000,1,0,1| a");
        fault(0, "@0,1,0,00|-a");
        fault(0, "@0,00,0,1|+a");

        Edge.of("3 not both counts 0: one of them may be");
        fault(0, "@0,0,0,0");
        fault(0, "@0,0,0,0|+a");
        fault(2, "@0,1,0,1| a|@1,0,1,0");
        fault(1, "@0,0,0,1");
        fault(1, "@0,1,0,0");

        Edge.of("3 0 without one: so the first one has FROM equal to TO");
        fault(-1, "@5,0,5,1|+a");
        fault(0, "@5,0,4,1|+a");
        fault(0, "@4,0,5,1|+a");
        fault(0, "@0,1,1,1| a");
        fault(0, "@1,1,0,1| a");
    }

    private static void headsBehindOthers() {
        Edge.of("3 FROM no less than what FROM and OLD of the HUNK ahead make together");
        fault(-1, "@5,1,5,1| a|@6,1,6,1| a");
        fault(2, "@5,1,5,1| a|@5,1,5,1| a");
        fault(2, "@5,1,5,1| a|@0,1,0,1| a");
        fault(3, "@5,2,5,2| a| b|@6,1,6,1| a");
        fault(-1, "@5,2,5,2| a| b|@7,1,7,1| a");
        fault(-1, "@5,0,5,1|+a|@5,1,6,1| a");
        fault(2, "@5,0,5,1|+a|@4,1,5,1| a");

        Edge.of("3 as many LINES lie between this HUNK and the one ahead in both");
        fault(-1, "@5,1,5,1| a|@9,1,9,1| a");
        fault(2, "@5,1,5,1| a|@9,1,8,1| a");
        fault(2, "@5,1,5,1| a|@8,1,9,1| a");
        fault(2, "@5,1,5,1| a|@6,1,7,1| a");
        fault(-1, "@5,1,5,0|-a|@9,1,8,1| a");
        fault(2, "@5,1,5,0|-a|@9,1,9,1| a");
        fault(-1, "@5,0,5,1|+a|@9,1,10,1| a");
        fault(2, "@5,0,5,1|+a|@9,1,9,1| a");

        Edge.of("3 the one ahead, not the first one: of three HUNKS");
        fault(-1, "@0,1,0,0|-a|@1,1,0,0|-a|@2,1,0,0|-a");
        fault(4, "@0,1,0,0|-a|@1,1,0,0|-a|@2,1,1,0|-a");
        fault(4, "@0,1,0,0|-a|@1,1,0,0|-a|@1,1,0,0|-a");
    }

    private static void marked() {
        Edge.of("3 behind it come LINES that begin with a mark: no other sign, and not none");
        fault(1, "@0,1,0,1|");
        fault(1, "@0,1,0,1|a");
        fault(1, "@0,1,0,1|0");
        fault(1, "@0,1,0,1|,a");
        fault(1, "@0,1,0,1|@a");
        fault(2, "@0,1,0,1|-a|");

        Edge.of("3 ' ' only if both have");
        fault(-1, "@0,1,0,1| a");
        fault(1, "@0,1,0,0| a");
        fault(1, "@0,0,0,1| a");
        fault(2, "@0,1,0,1|-a| a");
        fault(2, "@0,1,0,1|+a| a");
        fault(-1, "@0,2,0,1|-a| a");
        fault(-1, "@0,1,0,2|+a| a");
        fault(2, "@0,2,0,1| a| a");
        fault(2, "@0,1,0,2| a| a");

        Edge.of("3 '-' only if OLD has more");
        fault(-1, "@0,1,0,0|-a");
        fault(1, "@0,0,0,1|-a");
        fault(2, "@0,1,0,1|-a|-a");
        fault(2, "@0,1,0,2| a|-a");
        fault(-1, "@0,2,0,0|-a|-a");

        Edge.of("3 '+' only if NEW has more");
        fault(-1, "@0,0,0,1|+a");
        fault(1, "@0,1,0,0|+a");
        fault(2, "@0,1,0,1|+a|+a");
        fault(2, "@0,2,0,1| a|+a");
        fault(-1, "@0,0,0,2|+a|+a");

        Edge.of("3 '-' and '+' in any order, and a mark alone (of a LINE without signs)");
        fault(-1, "@0,1,0,1|+a|-b");
        fault(-1, "@0,2,0,2|-a|+a|-b|+b");
        fault(-1, "@0,2,0,2| |-|+");
    }

    private static void missing() {
        Edge.of("3 LINES are missing at the end: how many LINES the TEXT has");
        fault(1, "@0,1,0,0");
        fault(1, "@0,0,0,1");
        fault(2, "@0,1,0,1|-a");
        fault(2, "@0,1,0,1|+a");
        fault(2, "@0,2,0,2| a");
        fault(3, "@0,1,0,0|-a|@1,1,0,0");

        Edge.of("3 LINES are missing behind 30: 30");
        Edge.unchanged(30, () -> marks("@0,30,0,0"), x -> x.fault(0));
        Edge.unchanged(-1, () -> marks("@0,29,0,0"), x -> x.fault(0));
        Edge.unchanged(29, () -> marks("@0,28,0,0"), x -> x.fault(0));

        Edge.of("3 the first LINE that can't be there, not a later one");
        fault(0, "a|@0,1,0,0|-a|b");
        fault(2, "@0,1,0,0|-a|@0,1,0,0|b");
    }

    /** A HEAD, and then 29 times the LINE "-". */
    private static Lineseam marks(String head) {
        Lineseam x = Edge.with(head);
        Edge.type(x, "-");
        for (int k = 1; k < 30; k++) {
            x.put(0, k);
        }
        return x;
    }

    // ---- section 3: LAY

    private static String row(int many, String last) {
        return "p|".repeat(many) + last;
    }

    private static void places() {
        Edge.of("3 the PLACE FROM + SHIFT first, though it would fit 1 less and 1 more");
        laid("1 c|d|c", "@1,1,1,1|-c|+d", "c|c|c", 9);

        Edge.of("3 then 1 less, ahead of 1 more");
        laid("1 p|d|p|c|c", "@2,1,2,1|-c|+d", "p|c|p|c|c", 9);

        Edge.of("3 then 1 more, ahead of 2 less");
        laid("1 c|p|p|d|c", "@2,1,2,1|-c|+d", "c|p|p|c|c", 9);

        Edge.of("3 then 2 less, ahead of 2 more");
        laid("1 d|p|p|p|c", "@2,1,2,1|-c|+d", "c|p|p|p|c", 9);

        Edge.of("3 GIVE 0: no other PLACE");
        laid("1 p|d", "@1,1,1,1|-c|+d", "p|c", 0);
        laid("0 p|p|c", "@1,1,1,1|-c|+d", "p|p|c", 0);
        laid("0 c|p", "@1,1,1,1|-c|+d", "c|p", 0);

        Edge.of("3 GIVE g: so many more, not one further");
        for (int g = 1; g <= 9; g++) {
            laid("1 " + row(g, "d"), "@0,1,0,1|-c|+d", row(g, "c"), g);
            laid("0 " + row(g + 1, "c"), "@0,1,0,1|-c|+d", row(g + 1, "c"), g);
        }

        Edge.of("3 GIVE g: so many less, not one further");
        for (int g = 1; g <= 9; g++) {
            int from = g + 1;
            String patch = "@" + from + ",1," + from + ",1|-c|+d";
            laid("1 p|d|" + row(10, "p"), patch, "p|c|" + row(10, "p"), g);
            laid("0 c|" + row(11, "p"), patch, "c|" + row(11, "p"), g);
        }
    }

    private static void fits() {
        Edge.of("3 it fits at a PLACE that is LOW or more: at 0, not ahead of it");
        laid("1 d", "@0,1,0,1|-c|+d", "c", 9);
        laid("0 p", "@0,1,0,1|-c|+d", "p", 9);

        Edge.of("3 LOW is p and how many NEW there are: it fits there, not 1 less");
        laid("2 a|e", "@0,0,0,1|+a|@0,1,1,1|-c|+e", "c", 9);
        laid("1 a|p", "@0,0,0,1|+a|@0,1,1,1|-a|+e", "p", 9);
        laid("1 a|c|b", "@0,1,0,2|-f|+a|+c|@1,1,2,1|-c|+e", "f|b", 9);
        laid("2 b|e", "@0,2,0,1|-a|-c|+b|@2,1,1,1|-c|+e", "a|c|c", 0);

        Edge.of("3 no more than how many LINES the TEXT has then: behind all, not further");
        laid("1 a|b|h", "@2,0,2,1|+h", "a|b", 0);
        laid("0 a|b", "@3,0,3,1|+h", "a|b", 0);
        laid("1 a|b|h", "@3,0,3,1|+h", "a|b", 1);
        laid("0 a|b", "@12,0,12,1|+h", "a|b", 9);
        laid("1 a|b|h", "@11,0,11,1|+h", "a|b", 9);

        Edge.of("3 how many LINES it has then, not at first");
        laid("2 a|b|g|h", "@2,0,2,1|+g|@2,0,3,1|+h", "a|b", 0);
        laid("2 h", "@0,2,0,0|-a|-b|@2,0,0,1|+h", "a|b", 0);

        Edge.of("3 if its OLD are the LINES from there on: all of them, up to the last LINE");
        laid("1 a|d", "@1,2,1,1|-b|-c|+d", "a|b|c", 0);
        laid("0 a|b", "@1,2,1,1|-b|-c|+d", "a|b", 9);
        laid("0 a|b|d", "@1,2,1,1|-b|-c|+d", "a|b|d", 9);
        laid("1 a|b|d|e", "@1,1,1,2| b|+d", "a|b|e", 9);

        Edge.of("3 without OLD it fits at each such PLACE, also in a TEXT without LINES");
        laid("1 h", "@0,0,0,1|+h", null, 0);
        laid("1 h|a", "@0,0,0,1|+h", "a", 0);
        laid("1 h", "@9,0,9,1|+h", null, 9);
        laid("0 ", "@9,0,9,1|+h", null, 8);

        Edge.of("3 with OLD it does not fit in a TEXT without LINES");
        laid("0 ", "@0,1,0,0|-a", null, 9);
        laid("0 ", "@30,1,30,0|-a", null, 9);

        Edge.of("3 equal LINES, not LIKE LOOSELY; a LINE without signs is one");
        laid("0 a ", "@0,1,0,0|-a", "a ", 9);
        laid("1 a", "@0,1,0,0|-", "|a", 0);
        laid("0 a", "@0,1,0,0|-", "a", 9);

        Edge.of("3 NEW of none, and OLD of all LINES");
        laid("1 ", "@0,2,0,0|-a|-b", "a|b", 0);
    }

    private static void shift() {
        Edge.of("3 SHIFT is p - FROM: the next one is tried as far off");
        laid("2 p|p|d|p|g|c|e", "@0,1,0,1|-c|+d|@2,1,2,1|-e|+g", "p|p|c|p|e|c|e", 2);

        Edge.of("3 SHIFT less than 0");
        laid("2 d|p|g|e|e", "@2,1,2,1|-c|+d|@4,1,4,1|-e|+g", "c|p|e|e|e", 2);

        Edge.of("3 and how many more NEW there are than OLD");
        laid("2 a|h|h|b|g", "@0,1,0,3| a|+h|+h|@2,0,4,1|+g", "a|b", 0);
        laid("2 c|g", "@0,2,0,0|-a|-b|@3,0,1,1|+g", "a|b|c", 0);

        Edge.of("3 if it fits nowhere, SHIFT and LOW stay");
        laid("2 p|d|p|g", "@0,1,0,1|-c|+d|@1,1,1,1|-f|+g|@2,1,2,1|-e|+g", "p|c|p|e", 1);
        laid("2 c|p|g|d", "@0,1,0,1|-f|+g|@2,1,2,1|-e|+g|@3,1,3,1|-e|+d", "c|p|e|e", 0);
        laid("1 d", "@0,1,0,1|-f|+g|@1,1,1,1|-c|+d", "c", 1);
    }

    private static void refused() {
        Edge.of("3 if it fits nowhere, it is REFUSED: none, some, all");
        String patch = "@0,1,0,1|-a|+e|@2,1,2,1|-c|+f";
        Edge.let("2 0", laying(patch, "a|b|c"), x -> x.lay(0, 0) + " " + x.house(6));
        Edge.let("1 1", laying(patch, "a|b|b"), x -> x.lay(0, 9) + " " + x.house(6));
        Edge.let("0 2", laying(patch, "b|b|b"), x -> x.lay(0, 9) + " " + x.house(6));
        Edge.let("0 2", laying(patch, null), x -> x.lay(0, 9) + " " + x.house(6));

        Edge.of("3 what was REFUSED ahead of the call is gone, also if none is by it, also of a PATCH without HUNKS");
        Edge.let("0 2 0 0 0", laying(patch, "b|b|b"), x -> x.lay(0, 0) + " " + x.house(6) + " "
                + x.patch(0, 0, 0) + " " + x.lay(0, 0) + " " + x.house(6));
        Edge.let("0 2 2 0", laying(patch, "b|b|b"), x -> x.lay(0, 0) + " " + x.house(6) + " " + fitting(x) + " "
                + x.house(6));
        Edge.let("0 1 -d|+h", laying(patch, "b|b|b"), x -> {
            x.lay(0, 0);
            Edge.set(x, 1, "@0,1,0,1|-d|+h");
            x.read(1);
            return x.lay(0, 0) + " " + x.again() + " " + x.hunk(0);
        });

        Edge.of("3 no other call but again() changes what is REFUSED");
        Edge.let("2: 0 0 -a|+e / 2 2 -c|+f", laying(patch, "b|b|b"), x -> {
            x.lay(0, 0);
            x.turn();
            x.write(1);
            x.patch(0, 1, 1);
            x.read(1);
            x.turn();
            x.cut(0, 0, 1);
            x.add(0, 0, 5);
            x.change(0, 0);
            x.copy(2, 0);
            x.carry(2, 0, 1);
            x.join(3, 0, 1, 2, 3);
            x.wouldJoin(0, 1, 2);
            x.keep(0);
            x.asOf(1, 0);
            x.walk(0);
            x.forth();
            x.mend(9);
            x.slip(9);
            x.sign(1);
            x.erase(1);
            x.knock();
            x.isSound();
            x.digest();
            return x.again() + ": " + told(x);
        });

        Edge.of("3 a HUNK is REFUSED as it was then: a PATCH that is turned afterwards is another one");
        Edge.let("1 -a|+e", laying("@0,1,0,1|-a|+e", "b"),
                x -> x.lay(0, 0) + x.turn() == 1 ? x.again() + " " + x.hunk(0) : "");
    }

    /** The PATCH is laid on a TEXT that it fits. */
    private static int fitting(Lineseam x) {
        Edge.set(x, 1, "a|b|c");
        return x.lay(1, 0);
    }

    // ---- promises 26 to 34

    private static void patch() {
        Edge.of("P26 IndexOutOfBoundsException if there is no such TEXT (the first)");
        Edge.texts(Edge::busy, 0, 3, t -> x -> x.patch(t, 0, 0));

        Edge.of("P26 IndexOutOfBoundsException if there is no such TEXT (the second)");
        Edge.texts(Edge::busy, 0, 3, t -> x -> x.patch(0, t, 0));

        Edge.of("P26 IllegalArgumentException if context is not 0 to 3");
        Edge.bounds(Edge.ARGUMENT, Edge::busy, 0, 3, 3, 1, c -> x -> x.patch(0, 3, c));

        Edge.of("P26 of both exceptions the IndexOutOfBoundsException is thrown");
        Edge.refused(Edge.INDEX, Edge::busy, x -> x.patch(4, 0, 4));
        Edge.refused(Edge.INDEX, Edge::busy, x -> x.patch(0, -1, -1));

        Edge.of("P26 the PATCH becomes that of two TEXTS: what it had is gone, also if it has none then");
        Edge.let("0 ", Edge::busy, x -> x.patch(0, 0, 0) + " " + told(x));

        Edge.of("P26 how many HUNKS: 20 of TEXTS of 30");
        Lineseam x = new Lineseam();
        // 19 LINES that STAY have 20 gaps about them: in nine of them one goes OUT, in nine one comes IN, in two both.
        for (int k = 0; k < 20; k++) {
            Edge.type(x, "-");
            if (k % 2 == 0 || k == 19) {
                x.put(0, x.house(0));
            }
            Edge.type(x, "+");
            if (k % 2 == 1 || k == 0) {
                x.put(1, x.house(1));
            }
            if (k < 19) {
                x.add(0, x.house(0), k);
                x.add(1, x.house(1), k);
            }
        }
        Edge.due("30 30", x.house(0) + " " + x.house(1));
        Edge.due(20, x.patch(0, 1, 0));
        Edge.due("29 --|++", x.ofHunk(19, 0) + " " + x.hunk(19));
        x.copy(2, 0);
        Edge.due(20, x.lay(2, 0));
        Edge.due(x.whole(1), x.whole(2));
    }

    private static void turn() {
        Edge.of("P27 how many LINES it puts in then: none");
        Edge.let(0, Edge::empty, x -> x.turn());
        Edge.let(0, patched("a", "a|b", 0), x -> x.turn());

        Edge.of("P27 how many LINES it puts in then: those of all HUNKS, 30 at most");
        Edge.let(2, patched("a|b|c", "b", 0), x -> x.turn());
        Edge.let("30 0", () -> {
            Lineseam x = thirty();
            x.patch(0, 1, 0);
            return x;
        }, x -> x.turn() + " " + x.turn());
    }

    private static void write() {
        Edge.of("P28 IndexOutOfBoundsException if there is no such TEXT");
        Edge.texts(Edge::busy, 8, 8, t -> x -> x.write(t));
        Edge.texts(Edge::empty, 0, 0, t -> x -> x.write(t));

        Edge.of("P28 a PATCH without HUNKS: a TEXT without LINES, that of before is gone");
        Edge.let("0 ", () -> Edge.with("a|b"), x -> x.write(0) + " " + x.whole(0));

        Edge.of("P28 IllegalStateException if it would have more than 30 LINES");
        Edge.let("30 @0,29,0,0", () -> out(29), x -> x.write(3) + " " + x.line(3, 0));
        Edge.refused(Edge.STATE, () -> out(30), x -> x.write(3));
        Edge.refused(Edge.STATE, () -> out(30), x -> x.write(0));

        Edge.of("P28 IllegalStateException if it would have more than 30 LINES: its HEADS count, too");
        Edge.let(30, () -> parted(28), x -> x.write(3));
        Edge.refused(Edge.STATE, () -> parted(29), x -> x.write(3));

        Edge.of("P28 IllegalStateException if it would have one with more than 16 signs");
        Edge.let("2 16 +", () -> longLine(15), x -> x.write(2) + " " + x.ofLine(2, 1, 3) + " "
                + x.line(2, 1).substring(0, 1));
        Edge.refused(Edge.STATE, () -> longLine(16), x -> x.write(2));

        Edge.of("P28 more than 16 signs: also of a LINE that STAYS, goes OUT, or is not the first");
        Edge.refused(Edge.STATE, () -> {
            Lineseam x = longLine(16);
            x.turn();
            return x;
        }, x -> x.write(0));
        Edge.refused(Edge.STATE, () -> {
            Lineseam x = longLine(16);
            x.copy(1, 0);
            x.add(1, 0, 5);
            x.patch(0, 1, 3);
            return x;
        }, x -> x.write(3));

        Edge.of("P28 of both exceptions the IndexOutOfBoundsException is thrown");
        Edge.refused(Edge.INDEX, () -> out(30), x -> x.write(4));
        Edge.refused(Edge.INDEX, () -> longLine(16), x -> x.write(-1));

        Edge.of("P28 HEADS with numbers of one and of two signs: 9, 10, and 30");
        Edge.let("@0,9,0,0", () -> out(9), x -> x.write(3) > 0 ? x.line(3, 0) : "");
        Edge.let("@0,10,0,0", () -> out(10), x -> x.write(3) > 0 ? x.line(3, 0) : "");
        Edge.let("@0,1,0,0|-a|@30,0,29,1|+@", () -> {
            Lineseam x = thirty();
            x.copy(1, 0);
            x.cut(1, 0, 1);
            Edge.type(x, "@");
            x.put(1, 29);
            x.patch(0, 1, 0);
            return x;
        }, x -> x.write(3) > 0 ? x.whole(3) : "");

        Edge.of("P28 a LINE without signs is its mark alone");
        Edge.let("@0,2,0,2|-a| |+b", patched("a|", "|b", 1), x -> x.write(3) > 0 ? x.whole(3) : "");
        Edge.let("@0,1,0,0|-|@2,0,1,1|+", patched("|a", "a|", 0), x -> x.write(3) > 0 ? x.whole(3) : "");
    }

    /** So many of 30 LINES go OUT, by one HUNK; the CURSOR is in the TEXT 3, a LINE PASSED. */
    private static Lineseam out(int many) {
        Lineseam x = thirty();
        x.cut(0, many, 30);
        x.patch(0, 1, 0);
        Edge.fill(x, 3, "x|y");
        x.walk(3);
        x.forth();
        return x;
    }

    /** Two HUNKS, with so many LINES together. */
    private static Lineseam parted(int many) {
        Lineseam x = thirty();
        x.cut(0, many + 1, 30);
        x.copy(1, 0);
        x.cut(1, 2, many + 1);
        x.cut(1, 0, 1);
        x.patch(0, 1, 0);
        Edge.due("2 " + many, x.house(5) + " " + (x.ofHunk(0, 4) + x.ofHunk(1, 4)));
        return x;
    }

    /** One LINE comes IN, of so many signs, that is in the TEXT 0. */
    private static Lineseam longLine(int signs) {
        Lineseam x = Edge.with("abcdefgh 012");
        x.patch(3, 0, 0);
        for (int k = 12; k < signs; k++) {
            x.write(1);
            x.cut(1, 0, 1);
            x.copy(0, 1);
            x.patch(3, 0, 0);
        }
        Edge.due(signs, x.ofLine(0, 0, 3));
        return x;
    }

    private static void read() {
        Edge.of("P29 IndexOutOfBoundsException if there is no such TEXT");
        Edge.texts(() -> Edge.with("a", null, null, "@0,1,0,0|b"), 0, 1, t -> x -> x.read(t));
        Edge.texts(Edge::empty, -1, -1, t -> x -> x.read(t));

        Edge.of("P29 otherwise the FAULT: the PATCH stays as it was");
        Edge.unchanged(0, Edge::busy, x -> x.read(0));
        Edge.unchanged(0, Edge::full, x -> x.read(0));

        Edge.of("P29 a TEXT without LINES: the PATCH has no HUNKS then");
        Edge.let("-1 0 ", patched("a", "b", 0), x -> x.read(2) + " " + x.house(5) + " " + told(x));

        Edge.of("P29 a PATCH TEXT of 30 LINES: one HUNK, and fifteen");
        Edge.let("-1 29", () -> marks("@0,29,0,0"), x -> x.read(0) + " " + x.ofHunk(0, 4));
        Edge.let("-1 15 14 28 +", PatchEdgeTest::fifteen, x -> x.read(0) + " " + x.house(5) + " " + x.ofHunk(14, 0)
                + " " + x.ofHunk(14, 2) + " " + x.hunk(14));

        Edge.of("P29 LINES of 16 signs, and marks alone");
        Edge.let("-1 ++++abcdefgh 012", () -> {
            Lineseam x = longLine(15);
            x.write(2);
            x.patch(0, 0, 0);
            return x;
        }, x -> x.read(2) + " " + x.hunk(0));
        Edge.let("-1 - 0", () -> Edge.with("@0,1,0,0|-"), x -> x.read(0) + " " + x.hunk(0) + " " + x.ofHunk(0, 3));

        Edge.of("P29 the TEXT stays, also if it is read");
        Edge.let("@0,1,0,0|-", () -> Edge.with("@0,1,0,0|-"), x -> x.read(0) == -1 ? x.whole(0) : "");

        Edge.of("P29 what is read is what was written");
        Edge.let(true, Edge::busy, x -> {
            String was = told(x);
            x.write(3);
            x.patch(0, 0, 0);
            x.read(3);
            return told(x).equals(was) && x.house(5) == 3;
        });
    }

    /** Fifteen HUNKS of one LINE each. */
    private static Lineseam fifteen() {
        Lineseam x = new Lineseam();
        for (int k = 0; k < 15; k++) {
            Edge.type(x, "@" + k + ",0," + 2 * k + ",1");
            x.put(0, 2 * k);
            Edge.type(x, "+");
            x.put(0, 2 * k + 1);
        }
        return x;
    }

    private static void fault() {
        Edge.of("P30 IndexOutOfBoundsException if there is no such TEXT");
        Edge.texts(Edge::busy, 0, 0, t -> x -> x.fault(t));
        Edge.texts(Edge::empty, -1, -1, t -> x -> x.fault(t));
        Edge.unchanged(-1, Edge::empty, x -> x.fault(3));
    }

    private static void lay() {
        Edge.of("P31 IndexOutOfBoundsException if there is no such TEXT");
        Edge.texts(() -> {
            Lineseam x = Edge.with("a", "b", null, "a");
            x.patch(0, 1, 0);
            return x;
        }, 1, 1, t -> x -> x.lay(t, 0));
        Edge.texts(Edge::empty, 0, 0, t -> x -> x.lay(t, 0));

        Edge.of("P31 IllegalArgumentException if give is not 0 to 9");
        Edge.bounds(Edge.ARGUMENT, laying("@0,1,0,1|-c|+d", row(9, "c")), 0, 0, 9, 1, g -> x -> x.lay(0, g));
        Edge.bounds(Edge.ARGUMENT, Edge::empty, 0, 0, 9, 0, g -> x -> x.lay(0, g));

        Edge.of("P31 IllegalStateException if the TEXT would have more than 30 LINES at the end");
        Edge.let("1 30", () -> grown(29), x -> x.lay(0, 0) + " " + x.house(0));
        Edge.refused(Edge.STATE, () -> grown(30), x -> x.lay(0, 0));
        Edge.refused(Edge.STATE, () -> grown(30), x -> x.lay(0, 9));

        Edge.of("P31 at the end: more on the way are let, up to 59");
        Lineseam x = thirty();
        for (int k = 0; k < 29; k++) {
            Edge.type(x, "@" + k);
            x.put(1, k);
        }
        x.add(1, 29, 0);
        Edge.due(2, x.patch(0, 1, 0));
        Edge.due("0 29", x.ofHunk(0, 1) + " " + x.ofHunk(0, 3));
        x.copy(2, 0);
        Edge.due(2, x.lay(2, 0));
        Edge.due(x.whole(1), x.whole(2));

        Edge.of("P31 at the end: the HUNK that would make fewer is REFUSED, so that it has more");
        Edge.refused(Edge.STATE, () -> {
            Lineseam y = Edge.full();
            Edge.set(y, 2, "@0,0,0,1|+h|@1,1,2,0|-h");
            Edge.due(-1, y.read(2));
            return y;
        }, y -> y.lay(0, 0));

        Edge.of("P31 of several exceptions the one that is named first is thrown");
        Edge.refused(Edge.INDEX, () -> grown(30), y -> y.lay(4, 10));
        Edge.refused(Edge.INDEX, () -> grown(30), y -> y.lay(-1, -1));
        Edge.refused(Edge.ARGUMENT, () -> grown(30), y -> y.lay(0, 10));
        Edge.refused(Edge.ARGUMENT, () -> grown(30), y -> y.lay(0, -1));

        Edge.of("P31 the PATCH stays, also what is REFUSED of it");
        Edge.let("1 2 0 0 -a|+e / 2 2 -c|+f", laying("@0,1,0,1|-a|+e|@2,1,2,1|-c|+f", "a|b|b"),
                y -> y.lay(0, 0) + " " + y.house(5) + " " + told(y));

        Edge.of("P31 a PATCH without HUNKS: 0, and the TEXT stays");
        Edge.let("0 a|b", () -> Edge.with("a|b"), y -> y.lay(0, 9) + " " + y.whole(0));
    }

    /** One LINE more would come into the TEXT 0, of so many; one HUNK is REFUSED, the CURSOR is in the TEXT 0. */
    private static Lineseam grown(int many) {
        Lineseam x = new Lineseam();
        Edge.words(x, 0, many);
        Edge.set(x, 1, "@5,1,5,1|-a|+b");
        x.read(1);
        x.lay(0, 0);
        Edge.set(x, 1, "@0,0,0,1|+h");
        x.read(1);
        x.walk(0);
        x.forth();
        return x;
    }

    private static void again() {
        Edge.of("P32 none REFUSED: the PATCH has no HUNKS then");
        Edge.let("0 0 0", patched("a", "b", 0), x -> x.again() + " " + x.house(5) + " " + x.house(6));
        Edge.unchanged(0, Edge::empty, x -> x.again());

        Edge.of("P32 none are REFUSED then: a second time there is nothing");
        Edge.let("1 0 0 0", Edge::busy, x -> x.again() + " " + x.house(6) + " " + x.again() + " " + x.house(5));

        Edge.of("P32 they keep FROM and TO, and are numbered from 0: what is written may have a FAULT");
        Edge.let("1 3 3 -d|+y", Edge::busy, x -> x.again() + " " + told(x));
        Edge.let("2: 0 1 0 0 1 / 3 0 2 2 2", () -> Edge.with("a|b|c", "b|c|d|e", "f"), x -> {
            x.patch(0, 1, 0);
            x.lay(2, 0);
            x.patch(2, 1, 0);
            return x.again() + ": " + numbers(x, 0) + " / " + numbers(x, 1);
        });
        Edge.let("3 @2,1,3,1|-c|+d 0", () -> {
            Lineseam x = Edge.with("a|b|c", "n|a|b|d", "z");
            x.patch(0, 1, 0);
            x.lay(2, 0);
            x.again();
            return x;
        }, x -> x.write(3) + " " + x.whole(3) + " " + x.fault(3));
    }

    private static String numbers(Lineseam x, int hunk) {
        return x.ofHunk(hunk, 0) + " " + x.ofHunk(hunk, 1) + " " + x.ofHunk(hunk, 2) + " " + x.ofHunk(hunk, 3) + " "
                + x.ofHunk(hunk, 4);
    }

    private static void ofHunk() {
        Edge.of("P33 IndexOutOfBoundsException if there is no such HUNK");
        Edge.bounds(Edge.INDEX, Edge::busy, 0, 1, 2, 5, h -> x -> x.ofHunk(h, 0));
        Edge.refused(Edge.INDEX, Edge::empty, x -> x.ofHunk(0, 0));
        Edge.refused(Edge.INDEX, Edge::full, x -> x.ofHunk(0, 0));

        Edge.of("P33 IllegalArgumentException if what is not 0 to 4");
        Edge.bounds(Edge.ARGUMENT, Edge::busy, 0, 5, 4, 1, w -> x -> x.ofHunk(2, w));

        Edge.of("P33 of both exceptions the IndexOutOfBoundsException is thrown");
        Edge.refused(Edge.INDEX, Edge::busy, x -> x.ofHunk(3, 5));
        Edge.refused(Edge.INDEX, Edge::busy, x -> x.ofHunk(-1, -1));
        Edge.refused(Edge.INDEX, Edge::empty, x -> x.ofHunk(0, 5));

        Edge.of("P33 a HUNK of the PATCH, not one of those REFUSED");
        Edge.refused(Edge.INDEX, () -> {
            Lineseam x = Edge.busy();
            x.patch(0, 0, 0);
            return x;
        }, x -> x.ofHunk(0, 0));

        Edge.of("P33 OLD of none, and NEW of none");
        Edge.let("0 2 2", patched("a", "b|c|a", 0), x -> x.ofHunk(0, 1) + " " + x.ofHunk(0, 3) + " " + x.ofHunk(0, 4));
        Edge.let("2 0 2", patched("b|c|a", "a", 0), x -> x.ofHunk(0, 1) + " " + x.ofHunk(0, 3) + " " + x.ofHunk(0, 4));
    }

    private static void hunk() {
        Edge.of("P34 IndexOutOfBoundsException if there is no such HUNK");
        Edge.bounds(Edge.INDEX, Edge::busy, 0, "-b|+z", 2, "+f", h -> x -> x.hunk(h));
        Edge.refused(Edge.INDEX, Edge::empty, x -> x.hunk(0));
        Edge.refused(Edge.INDEX, Edge::full, x -> x.hunk(0));

        Edge.of("P34 one MARKED LINE has no '|'; a LINE without signs is its mark alone");
        Edge.unchanged("-a", patched("a|b", "b", 0), x -> x.hunk(0));
        Edge.unchanged("+", patched("a", "a|", 0), x -> x.hunk(0));
        Edge.unchanged(" |-", patched("|", "", 1), x -> x.hunk(0));

        Edge.of("P34 a LINE of 16 signs has 17 with its mark");
        Edge.unchanged("+++++abcdefgh 012", () -> longLine(16), x -> x.hunk(0));
    }
}
