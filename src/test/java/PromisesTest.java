/** A method for each promise of the document: ordinary calls, the edges that it names, and wrong ones. */
public final class PromisesTest {
    private static final int MIN = Integer.MIN_VALUE;
    private static final int MAX = Integer.MAX_VALUE;

    private PromisesTest() {
    }

    public static void main(String[] args) {
        lines();
        cursor();
        scripts();
        patches();
        joins();
        versions();
        Check.end("PromisesTest");
    }

    private static void lines() {
        newObject();
        sign();
        erase();
        draft();
        put();
        add();
        change();
        cut();
        copy();
        carry();
        line();
        ofLine();
        whole();
    }

    private static void cursor() {
        walk();
        forth();
        back();
        mend();
        slip();
        strike();
        cursorNumbers();
        cursorGone();
    }

    private static void scripts() {
        script();
        ofScript();
        within();
        moves();
        ofMove();
    }

    private static void patches() {
        patch();
        turn();
        write();
        read();
        fault();
        lay();
        layLimits();
        again();
        ofHunk();
        hunk();
    }

    private static void joins() {
        join();
        wouldJoin();
        quarrel();
    }

    private static void versions() {
        keep();
        asOf();
        blame();
        ofVersion();
        knock();
        house();
        isSound();
        digest();
    }

    private static Lineseam with(String... rows) {
        Lineseam x = new Lineseam();
        for (int t = 0; t < rows.length; t++) {
            if (rows[t] != null) {
                Check.fill(x, t, rows[t]);
            }
        }
        return x;
    }

    private static Lineseam full() {
        Lineseam x = new Lineseam();
        for (int k = 0; k < 30; k++) {
            x.add(0, k, k % 26);
        }
        return x;
    }

    // ---- lines and texts

    private static void newObject() {
        Check.at("promise 1");
        Lineseam x = new Lineseam();
        for (int t = 0; t < 4; t++) {
            Check.due("", x.whole(t));
            Check.due(0, x.house(t));
        }
        for (int what = 4; what < 10; what++) {
            Check.due(0, x.house(what));
        }
        Check.due("", x.draft());
        Check.due(-1, x.cursor(0));
        Check.due(0, x.patch(0, 1, 3));
        Check.due(0, new Lineseam().turn());
        Check.due(0, new Lineseam().again());
        Check.due(1, x.knock());
        Check.due(1, new Lineseam().knock());
    }

    private static void sign() {
        Check.at("promise 2");
        Lineseam x = new Lineseam();
        for (int s = 0; s < 12; s++) {
            Check.due(s + 1, x.sign(s));
        }
        Check.due("abcdefgh 012", x.draft());
        Check.refused(Check.STATE, x, () -> x.sign(0));
        Check.refused(Check.ARGUMENT, x, () -> x.sign(23));
        Check.refused(Check.ARGUMENT, x, () -> x.sign(-1));
        x.erase(12);
        for (int s = 12; s < 23; s++) {
            Check.due(s - 11, x.sign(s));
        }
        Check.due("3456789@,+-", x.draft());
        Check.refused(Check.ARGUMENT, x, () -> x.sign(MAX));
        Check.refused(Check.ARGUMENT, x, () -> x.sign(MIN));
    }

    private static void erase() {
        Check.at("promise 3");
        Lineseam x = new Lineseam();
        Check.due(0, x.erase(0));
        Check.due(0, x.erase(5));
        Check.type(x, "abcdef");
        Check.due(6, x.erase(0));
        Check.due(4, x.erase(2));
        Check.due("abcd", x.draft());
        Check.refused(Check.ARGUMENT, x, () -> x.erase(-1));
        Check.refused(Check.ARGUMENT, x, () -> x.erase(MIN));
        Check.due("abcd", x.draft());
        Check.due(0, x.erase(MAX));
        Check.due("", x.draft());
        Check.due(1, x.sign(7));
        Check.due("h", x.draft());
    }

    private static void draft() {
        Check.at("promise 4");
        Lineseam x = new Lineseam();
        Check.due("", x.draft());
        Check.type(x, " a 0@,+-  ");
        Check.due(" a 0@,+-  ", x.draft());
        x.put(0, 0);
        Check.due(" a 0@,+-  ", x.draft());
    }

    private static void put() {
        Check.at("promise 5");
        Lineseam x = new Lineseam();
        Check.due(0, x.put(0, 0));
        Check.due("", x.line(0, 0));
        Check.type(x, "ab");
        Check.due(1, x.put(0, 1));
        Check.due(1, x.put(3, 0));
        Check.type(x, "ab ");
        Check.due(2, x.put(0, 1));
        Check.type(x, "");
        Check.due(0, x.put(0, 0));
        Check.due("||ab |ab", x.whole(0));
        Check.refused(Check.INDEX, x, () -> x.put(0, 5));
        Check.refused(Check.INDEX, x, () -> x.put(0, -1));
        Check.refused(Check.INDEX, x, () -> x.put(4, 0));
        Check.refused(Check.INDEX, x, () -> x.put(-1, 0));
        Lineseam f = full();
        Check.refused(Check.STATE, f, () -> f.put(0, 0));
        Check.refused(Check.STATE, f, () -> f.put(0, 30));
        Check.refused(Check.INDEX, f, () -> f.put(0, 31));
        f.cut(0, 29, 30);
        Check.due(26, f.put(0, 0));
        Check.due(30, f.house(0));
    }

    private static void add() {
        Check.at("promise 6");
        Lineseam x = new Lineseam();
        Check.due(0, x.add(0, 0, 25));
        Check.due(1, x.add(0, 0, 0));
        Check.due(2, x.add(0, 1, 9));
        Check.due(0, x.add(1, 0, 25));
        Check.due("a|j|z", x.whole(0));
        Check.type(x, "a");
        Check.due(1, x.put(1, 0));
        Check.refused(Check.INDEX, x, () -> x.add(4, 0, 0));
        Check.refused(Check.INDEX, x, () -> x.add(0, 4, 0));
        Check.refused(Check.INDEX, x, () -> x.add(0, -1, 26));
        Check.refused(Check.ARGUMENT, x, () -> x.add(0, 0, 26));
        Check.refused(Check.ARGUMENT, x, () -> x.add(0, 0, -1));
        Lineseam f = full();
        Check.refused(Check.STATE, f, () -> f.add(0, 30, 0));
        Check.refused(Check.ARGUMENT, f, () -> f.add(0, 30, 26));
        Check.refused(Check.INDEX, f, () -> f.add(0, 31, 26));
        // A NUMBER is kept for ever: the next LINE gets another one.
        x.cut(0, 0, 3);
        x.cut(1, 0, 2);
        Check.due(3, x.add(0, 0, 5));
        Check.due(2, x.add(0, 0, 9));
    }

    private static void change() {
        Check.at("promise 7");
        Lineseam x = with("a|b|c");
        Check.type(x, "b0");
        Check.due(1, x.change(0, 1));
        Check.due("a|b0|c", x.whole(0));
        Check.due(3, x.ofLine(0, 1, 0));
        Check.due(3, x.change(0, 1));
        Check.due("b0", x.draft());
        Check.due(4, x.house(4));
        Check.refused(Check.INDEX, x, () -> x.change(0, 3));
        Check.refused(Check.INDEX, x, () -> x.change(0, -1));
        Check.refused(Check.INDEX, x, () -> x.change(1, 0));
        Check.refused(Check.INDEX, x, () -> x.change(4, 0));
    }

    private static void cut() {
        Check.at("promise 8");
        Lineseam x = with("a|b|c|d|e");
        Check.due(5, x.cut(0, 2, 2));
        Check.due(5, x.cut(0, 5, 5));
        Check.due(3, x.cut(0, 1, 3));
        Check.due("a|d|e", x.whole(0));
        Check.refused(Check.INDEX, x, () -> x.cut(0, 0, 4));
        Check.refused(Check.INDEX, x, () -> x.cut(0, -1, 1));
        Check.refused(Check.INDEX, x, () -> x.cut(0, 2, 1));
        Check.refused(Check.INDEX, x, () -> x.cut(0, 4, 4));
        Check.refused(Check.INDEX, x, () -> x.cut(0, MIN, MAX));
        Check.refused(Check.INDEX, x, () -> x.cut(4, 0, 0));
        Check.due(2, x.cut(0, 2, 3));
        Check.due(0, x.cut(0, 0, 2));
        Check.due("", x.whole(0));
        Check.due(0, x.cut(0, 0, 0));
    }

    private static void copy() {
        Check.at("promise 9");
        Lineseam x = with("a|b|c", "d");
        Check.due(3, x.copy(1, 0));
        Check.due("a|b|c", x.whole(1));
        Check.due(3, x.copy(0, 0));
        x.cut(0, 0, 1);
        Check.due("a|b|c", x.whole(1));
        Check.due(0, x.copy(1, 2));
        Check.due("", x.whole(1));
        Check.refused(Check.INDEX, x, () -> x.copy(4, 0));
        Check.refused(Check.INDEX, x, () -> x.copy(0, 4));
        Check.refused(Check.INDEX, x, () -> x.copy(0, -1));
    }

    private static void carry() {
        Check.at("promise 10");
        Lineseam x = with("a|b|c|d|e");
        Check.due(2, x.carry(0, 1, 3));
        Check.due("a|d|e|b|c", x.whole(0));
        Check.due(0, x.carry(0, 1, 1));
        Check.due(2, x.carry(0, 3, 5));
        Check.due(5, x.carry(0, 0, 5));
        Check.due("a|d|e|b|c", x.whole(0));
        Check.due(1, x.carry(0, 0, 1));
        Check.due("d|e|b|c|a", x.whole(0));
        Check.refused(Check.INDEX, x, () -> x.carry(0, -1, 1));
        Check.refused(Check.INDEX, x, () -> x.carry(0, 0, 6));
        Check.refused(Check.INDEX, x, () -> x.carry(0, 3, 2));
        Check.refused(Check.INDEX, x, () -> x.carry(-1, 0, 0));
        Lineseam f = full();
        Check.due(29, f.carry(0, 0, 29));
        Check.due(30, f.house(0));
        Check.due("d", f.line(0, 0));
        Check.due("c", f.line(0, 29));
    }

    private static void line() {
        Check.at("promise 11");
        Lineseam x = with("a|z", "abcdefgh 012|");
        Check.due("a", x.line(0, 0));
        Check.due("z", x.line(0, 1));
        Check.due("abcdefgh 012", x.line(1, 0));
        Check.due("", x.line(1, 1));
        Check.refused(Check.INDEX, x, () -> x.line(0, 2));
        Check.refused(Check.INDEX, x, () -> x.line(0, -1));
        Check.refused(Check.INDEX, x, () -> x.line(4, 0));
        Check.refused(Check.INDEX, x, () -> x.line(2, 0));
    }

    private static void ofLine() {
        Check.at("promise 12");
        Lineseam x = with("b|a|b|c|b", "abcdefgh 012|");
        Check.due(0, x.ofLine(0, 2, 0));
        Check.due(1, x.ofLine(0, 1, 0));
        Check.due(0, x.ofLine(0, 2, 1));
        Check.due(4, x.ofLine(0, 2, 2));
        Check.due(3, x.ofLine(0, 3, 1));
        Check.due(3, x.ofLine(0, 3, 2));
        Check.due(1, x.ofLine(0, 3, 3));
        Check.due(12, x.ofLine(1, 0, 3));
        Check.due(0, x.ofLine(1, 1, 3));
        Check.due(4, x.ofLine(1, 1, 0));
        Check.refused(Check.INDEX, x, () -> x.ofLine(0, 5, 4));
        Check.refused(Check.INDEX, x, () -> x.ofLine(4, 0, 0));
        Check.refused(Check.INDEX, x, () -> x.ofLine(0, -1, 0));
        Check.refused(Check.ARGUMENT, x, () -> x.ofLine(0, 0, 4));
        Check.refused(Check.ARGUMENT, x, () -> x.ofLine(0, 0, -1));
    }

    private static void whole() {
        Check.at("promise 13");
        Lineseam x = with("a|b a|", "");
        Check.due("a|b a|", x.whole(0));
        Check.due("", x.whole(1));
        Check.due("", x.whole(2));
        Check.refused(Check.INDEX, x, () -> x.whole(4));
        Check.refused(Check.INDEX, x, () -> x.whole(-1));
        Check.due(59, full().whole(0).length());
    }

    // ---- the cursor

    private static void walk() {
        Check.at("promise 14");
        Lineseam x = with("a|b", "c");
        Check.due(2, x.walk(0));
        Check.due(0, x.cursor(0));
        Check.due(0, x.cursor(1));
        x.forth();
        Check.refused(Check.INDEX, x, () -> x.walk(4));
        Check.refused(Check.INDEX, x, () -> x.walk(-1));
        Check.due(1, x.cursor(1));
        Check.due(1, x.cursor(2));
        Check.due(1, x.walk(1));
        Check.due(1, x.cursor(0));
        Check.due(0, x.cursor(1));
        Check.due(0, x.cursor(2));
        x.forth();
        Check.due(1, x.walk(1));
        Check.due(0, x.cursor(2));
        Check.due(0, x.walk(2));
    }

    private static void forth() {
        Check.at("promise 15");
        Lineseam x = with("a|b|a");
        Check.refused(Check.STATE, x, () -> x.forth());
        x.walk(0);
        Check.due(0, x.forth());
        Check.due(1, x.forth());
        Check.due(0, x.forth());
        Check.due(-9, x.forth());
        Check.due(3, x.cursor(1));
        Check.due(1, x.cursor(2));
        x.walk(1);
        Check.due(-9, x.forth());
        Check.due(0, x.cursor(2));
    }

    private static void back() {
        Check.at("promise 16");
        Lineseam x = with("a|b|c");
        Check.refused(Check.STATE, x, () -> x.back());
        x.walk(0);
        Check.due(-9, x.back());
        Check.due(0, x.cursor(2));
        x.forth();
        x.forth();
        Check.due(1, x.back());
        Check.due(1, x.cursor(1));
        Check.due(0, x.back());
        Check.due(-9, x.back());
        Check.due(0, x.cursor(1));
        Check.due(1, x.cursor(2));
        Check.due(2, x.strike());
        Check.due("b|c", x.whole(0));
    }

    private static void mend() {
        Check.at("promise 17");
        Lineseam x = with("a|b|c");
        Check.refused(Check.STATE, x, () -> x.mend(0));
        Check.refused(Check.ARGUMENT, x, () -> x.mend(26));
        x.walk(0);
        Check.due(-9, x.mend(5));
        Check.refused(Check.ARGUMENT, x, () -> x.mend(-1));
        x.forth();
        x.forth();
        Check.due(1, x.mend(25));
        Check.due("a|z|c", x.whole(0));
        Check.due(3, x.mend(2));
        Check.due(1, x.cursor(2));
        Check.due(2, x.cursor(1));
        Check.due(2, x.back());
        Check.due(2, x.mend(0));
        Check.due("a|a|c", x.whole(0));
        Check.due(4, x.house(4));
    }

    private static void slip() {
        Check.at("promise 18");
        Lineseam x = with("a|b");
        Check.refused(Check.STATE, x, () -> x.slip(0));
        Check.refused(Check.ARGUMENT, x, () -> x.slip(-1));
        x.walk(0);
        x.forth();
        Check.due(1, x.slip(9));
        Check.due("a|j|b", x.whole(0));
        Check.due(2, x.cursor(1));
        Check.due(0, x.cursor(2));
        Check.due(-9, x.strike());
        Check.due(-9, x.mend(0));
        Check.due(2, x.ofLine(0, 1, 0));
        Check.due(1, x.forth());
        Check.due(3, x.slip(0));
        Check.due("a|j|b|a", x.whole(0));
        Lineseam f = full();
        f.walk(0);
        Check.refused(Check.STATE, f, () -> f.slip(0));
        Check.refused(Check.ARGUMENT, f, () -> f.slip(26));
        f.forth();
        f.strike();
        Check.due(0, f.slip(25));
        Check.due(30, f.house(0));
    }

    private static void strike() {
        Check.at("promise 19");
        Lineseam x = with("a|b|c|d");
        Check.refused(Check.STATE, x, () -> x.strike());
        x.walk(0);
        Check.due(-9, x.strike());
        x.forth();
        x.forth();
        Check.due(3, x.strike());
        Check.due("a|c|d", x.whole(0));
        Check.due(1, x.cursor(1));
        Check.due(0, x.cursor(2));
        Check.due(-9, x.strike());
        x.forth();
        x.back();
        Check.due(2, x.strike());
        Check.due("a|d", x.whole(0));
        Check.due(1, x.cursor(1));
        Check.due(3, x.forth());
        Check.due(-9, x.forth());
        Check.due(1, x.strike());
        Check.due(1, x.cursor(1));
    }

    private static void cursorNumbers() {
        Check.at("promise 20");
        Lineseam x = with("a", "b|c");
        for (int what = 0; what < 3; what++) {
            Check.due(-1, x.cursor(what));
        }
        Check.refused(Check.ARGUMENT, x, () -> x.cursor(3));
        Check.refused(Check.ARGUMENT, x, () -> x.cursor(-1));
        x.walk(1);
        x.forth();
        x.forth();
        Check.due(1, x.cursor(0));
        Check.due(2, x.cursor(1));
        Check.due(1, x.cursor(2));
        Check.refused(Check.ARGUMENT, x, () -> x.cursor(3));
    }

    /** Which calls the CURSOR outlives, and which it does not (section 6). */
    private static void cursorGone() {
        Check.at("section 6");
        for (int call = 0; call < 10; call++) {
            Lineseam x = with("a|b", "a|b", "@0,0,0,1|+a");
            x.patch(0, 1, 0);
            x.keep(0);
            x.walk(0);
            x.forth();
            switch (call) {
                case 0: x.put(0, 0); break;
                case 1: x.add(0, 0, 0); break;
                case 2: x.change(0, 0); break;
                case 3: x.cut(0, 1, 1); break;
                case 4: x.copy(0, 0); break;
                case 5: x.carry(0, 2, 2); break;
                case 6: x.write(0); break;
                case 7: x.lay(0, 0); break;
                case 8: x.join(0, 0, 0, 0, 0); break;
                default: x.asOf(0, 0); break;
            }
            Check.due(-1, x.cursor(0));
            Check.due(-1, x.cursor(2));
        }
        Lineseam x = with("a|b", "b", "@0,0,0,1|+a");
        x.walk(0);
        x.forth();
        x.copy(1, 0);
        x.cut(1, 0, 2);
        x.read(2);
        x.fault(0);
        x.keep(0);
        x.asOf(3, 0);
        x.lay(3, 0);
        x.join(1, 0, 0, 0, 0);
        x.patch(0, 2, 1);
        x.write(2);
        x.read(2);
        x.isSound();
        x.digest();
        x.wouldJoin(0, 0, 0);
        Check.refused(Check.INDEX, x, () -> x.add(0, 9, 0));
        Check.due(0, x.cursor(0));
        Check.due(1, x.cursor(1));
        Check.due(1, x.cursor(2));
        x.read(3);
        x.lay(0, 0);
        Check.due(-1, x.cursor(1));
        // All HUNKS REFUSED.
        Lineseam y = with("a|b", "c", "d");
        y.patch(1, 2, 0);
        y.walk(0);
        Check.due(0, y.lay(0, 9));
        Check.due(-1, y.cursor(0));
    }

    // ---- scripts

    private static void script() {
        Check.at("promise 21");
        Lineseam x = with("a|b|c|a", "a|c|a|d");
        Check.due("=-==+", x.script(0, 1, false));
        Check.due("=+==-", x.script(1, 0, false));
        Check.due("====", x.script(0, 0, false));
        Check.due("", x.script(2, 3, true));
        Check.due("----", x.script(0, 2, false));
        Check.due("++++", x.script(2, 0, false));
        // As good both ways: the LINE goes OUT first.
        Check.set(x, 2, "a|b");
        Check.set(x, 3, "b|a");
        Check.due("-=+", x.script(2, 3, false));
        Check.set(x, 2, "a");
        Check.set(x, 3, "b");
        Check.due("-+", x.script(2, 3, false));
        Check.set(x, 2, "a|b|c");
        Check.set(x, 3, "c|a|b");
        Check.due("+==-", x.script(2, 3, false));
        Check.set(x, 2, "a b| |ab");
        Check.set(x, 3, "ab||a b");
        Check.due("--=++", x.script(2, 3, false));
        Check.due("===", x.script(2, 3, true));
        Check.refused(Check.INDEX, x, () -> x.script(4, 0, false));
        Check.refused(Check.INDEX, x, () -> x.script(0, -1, true));
    }

    private static void ofScript() {
        Check.at("promise 22");
        Lineseam x = with("a|b|c|a", "a|c|a|d|e");
        int[] due = {3, 1, 2, 3, 666};
        int[] loose = {0, 0, 0, 0, 1000};
        for (int what = 0; what < 5; what++) {
            Check.due(due[what], x.ofScript(0, 1, false, what));
            Check.due(due[what], x.ofScript(0, 1, true, what));
            Check.due(loose[what], x.ofScript(2, 3, true, what));
        }
        Check.due(1000, x.ofScript(0, 0, false, 4));
        Check.due(0, x.ofScript(0, 2, false, 4));
        Check.due(4, x.ofScript(0, 2, false, 3));
        Check.set(x, 2, "a |b");
        Check.set(x, 3, " a|b");
        Check.due(1, x.ofScript(2, 3, false, 0));
        Check.due(2, x.ofScript(2, 3, false, 3));
        Check.due(500, x.ofScript(2, 3, false, 4));
        Check.due(2, x.ofScript(2, 3, true, 0));
        Check.due(0, x.ofScript(2, 3, true, 3));
        Check.due(1000, x.ofScript(2, 3, true, 4));
        Check.refused(Check.INDEX, x, () -> x.ofScript(4, 0, false, 5));
        Check.refused(Check.INDEX, x, () -> x.ofScript(0, 4, false, 0));
        Check.refused(Check.ARGUMENT, x, () -> x.ofScript(0, 0, false, 5));
        Check.refused(Check.ARGUMENT, x, () -> x.ofScript(0, 0, true, -1));
    }

    private static void within() {
        Check.at("promise 23");
        Lineseam x = with("a b|a", "a b  ||ba");
        Check.due("===++", x.within(0, 0, 1, 0));
        Check.due("---", x.within(0, 0, 1, 1));
        Check.due("+", x.within(1, 1, 0, 1));
        Check.due("", x.within(1, 1, 1, 1));
        Check.due("--=+", x.within(0, 0, 1, 2));
        Check.due("===", x.within(0, 0, 0, 0));
        Check.refused(Check.INDEX, x, () -> x.within(0, 2, 1, 0));
        Check.refused(Check.INDEX, x, () -> x.within(0, 0, 1, 3));
        Check.refused(Check.INDEX, x, () -> x.within(4, 0, 1, 0));
        Check.refused(Check.INDEX, x, () -> x.within(0, 0, -1, 0));
        Check.refused(Check.INDEX, x, () -> x.within(0, 0, 2, 0));
    }

    private static void moves() {
        Check.at("promise 24");
        Lineseam x = with("a|b|c|d|e|f", "c|d|e|f|a|b");
        Check.due(1, x.moves(0, 1));
        Check.due(0, x.moves(0, 0));
        Check.due(0, x.moves(0, 2));
        Check.due(0, x.moves(2, 3));
        Check.set(x, 2, "a|b|x|y|z");
        Check.set(x, 3, "x|y|z|b|a");
        Check.due(2, x.moves(2, 3));
        Check.refused(Check.INDEX, x, () -> x.moves(4, 0));
        Check.refused(Check.INDEX, x, () -> x.moves(0, -1));
    }

    private static void ofMove() {
        Check.at("promise 25");
        Lineseam x = with("a|b|c|d|e|f", "c|d|e|f|a|b");
        Check.due(0, x.ofMove(0, 1, 0, 0));
        Check.due(4, x.ofMove(0, 1, 0, 1));
        Check.due(2, x.ofMove(0, 1, 0, 2));
        // The greatest first; then the smallest place in the first TEXT, then in the second.
        Check.set(x, 2, "p|a|b|q|x|y|z|w");
        Check.set(x, 3, "x|y|z|w|a|b|q|p");
        Check.due("--" + "--" + "====" + "++++", x.script(2, 3, false));
        Check.due("1 4 3", move(x, 2, 3, 0));
        Check.due("0 7 1", move(x, 2, 3, 1));
        Check.due(2, x.moves(2, 3));
        Check.set(x, 2, "a|x|y|z");
        Check.set(x, 3, "x|y|z|a|b|a");
        Check.due("0 3 1", move(x, 2, 3, 0));
        Check.due(1, x.moves(2, 3));
        Check.set(x, 2, "a|b|a|b|x|y|z|w|v");
        Check.set(x, 3, "x|y|z|w|v|a|b|c|b|a");
        Check.due("0 5 2", move(x, 2, 3, 0));
        Check.due("2 9 1", move(x, 2, 3, 1));
        Check.due("3 8 1", move(x, 2, 3, 2));
        Check.refused(Check.INDEX, x, () -> x.ofMove(0, 1, 1, 3));
        Check.refused(Check.INDEX, x, () -> x.ofMove(0, 1, -1, 0));
        Check.refused(Check.INDEX, x, () -> x.ofMove(4, 1, 0, 0));
        Check.refused(Check.INDEX, x, () -> x.ofMove(0, 4, 0, 0));
        Check.refused(Check.ARGUMENT, x, () -> x.ofMove(0, 1, 0, 3));
        Check.refused(Check.ARGUMENT, x, () -> x.ofMove(0, 1, 0, -1));
    }

    private static String move(Lineseam x, int first, int second, int move) {
        return x.ofMove(first, second, move, 0) + " " + x.ofMove(first, second, move, 1) + " "
                + x.ofMove(first, second, move, 2);
    }

    // ---- patches

    private static void patch() {
        Check.at("promise 26");
        Lineseam x = with("a|b|c|d|e|f|g", "a|x|c|d|e|y|g");
        Check.due(2, x.patch(0, 1, 0));
        Check.due("-b|+x", x.hunk(0));
        Check.due("-f|+y", x.hunk(1));
        Check.due(2, x.patch(0, 1, 1));
        Check.due(" a|-b|+x| c", x.hunk(0));
        Check.due(" e|-f|+y| g", x.hunk(1));
        Check.due(1, x.patch(0, 1, 2));
        Check.due(" a|-b|+x| c| d| e|-f|+y| g", x.hunk(0));
        Check.due(1, x.patch(0, 1, 3));
        Check.due(0, x.patch(0, 0, 3));
        Check.due(1, x.patch(0, 2, 0));
        Check.due(7, x.ofHunk(0, 1));
        Check.due(0, x.ofHunk(0, 3));
        Check.refused(Check.INDEX, x, () -> x.patch(4, 0, 4));
        Check.refused(Check.INDEX, x, () -> x.patch(0, -1, 0));
        Check.refused(Check.ARGUMENT, x, () -> x.patch(0, 1, 4));
        Check.refused(Check.ARGUMENT, x, () -> x.patch(0, 1, -1));
    }

    private static void turn() {
        Check.at("promise 27");
        Lineseam x = with("a|b|c|d", "x|a|c|y|z");
        Check.due(0, x.turn());
        x.patch(0, 1, 0);
        Check.due(2, x.turn());
        Check.due("-x", x.hunk(0));
        Check.due("+b", x.hunk(1));
        Check.due("+d|-y|-z", x.hunk(2));
        Check.due(2, x.ofHunk(1, 0));
        Check.due(1, x.ofHunk(1, 2));
        Check.due(2, x.ofHunk(2, 1));
        Check.due(1, x.ofHunk(2, 3));
        Check.due(3, x.turn());
        Check.due("-d|+y|+z", x.hunk(2));
        x.patch(0, 1, 1);
        x.turn();
        Check.due("-x| a|+b| c|+d|-y|-z", x.hunk(0));
    }

    private static void write() {
        Check.at("promise 28");
        Lineseam x = with("a|b|c|d|e|f|g", "a|x|c|d|e|y|g", "q");
        Check.due(0, x.write(2));
        Check.due("", x.whole(2));
        x.patch(0, 1, 1);
        Check.due(10, x.write(2));
        Check.due("@0,3,0,3| a|-b|+x| c|@4,3,4,3| e|-f|+y| g", x.whole(2));
        Check.due(-1, x.fault(2));
        Check.due(10, x.ofLine(2, 0, 0));
        Check.due(19, x.ofLine(2, 9, 0));
        Check.due(20, x.house(4));
        Check.refused(Check.INDEX, x, () -> x.write(4));
        Check.refused(Check.INDEX, x, () -> x.write(-1));
        Check.due(1, x.patch(0, 2, 0));
        Check.due(18, x.write(3));
        // 16 signs fit, 17 do not: a LINE of 12 grows by one each time it is written.
        Lineseam y = with("abcdefgh 012");
        for (int signs = 13; signs <= 16; signs++) {
            y.patch(3, 0, 0);
            Check.due(2, y.write(1));
            Check.due(signs, y.ofLine(1, 1, 3));
            y.cut(1, 0, 1);
            y.copy(0, 1);
        }
        Check.due("++++abcdefgh 012", y.line(0, 0));
        y.patch(3, 0, 0);
        Check.refused(Check.STATE, y, () -> y.write(1));
        // 30 LINES fit, 31 do not.
        Lineseam f = full();
        f.patch(0, 1, 0);
        Check.refused(Check.STATE, f, () -> f.write(2));
        Check.refused(Check.INDEX, f, () -> f.write(4));
        f.cut(0, 29, 30);
        f.patch(0, 1, 0);
        Check.due(30, f.write(2));
        Check.due("@0,29,0,0", f.line(2, 0));
        f.turn();
        f.write(3);
        Check.due("@0,0,0,29", f.line(3, 0));
    }

    private static void read() {
        Check.at("promise 29");
        Lineseam x = with("a|b", "@0,1,0,0|-a|@2,0,1,1|+|@3,2,3,2| h|+g|-f", "@0,1,0,0");
        Check.due(-1, x.read(1));
        Check.due(3, x.house(5));
        Check.due("-a", x.hunk(0));
        Check.due("+", x.hunk(1));
        Check.due(" h|+g|-f", x.hunk(2));
        Check.due(2, x.ofHunk(1, 0));
        Check.due(1, x.ofHunk(1, 2));
        Check.due(2, x.ofHunk(2, 3));
        // What is only in the PATCH has no NUMBER yet.
        Check.due(10, x.house(4));
        Check.due(1, x.read(2));
        Check.due(3, x.house(5));
        Check.due(0, x.read(0));
        Check.due("-a", x.hunk(0));
        Check.refused(Check.INDEX, x, () -> x.read(4));
        Check.refused(Check.INDEX, x, () -> x.read(-1));
        Check.due(-1, x.read(3));
        Check.due(0, x.house(5));
        // NUMBERS come as the LINES do, in the order in which they stand in the TEXT then.
        Check.set(x, 1, "@0,0,0,3|+h|+g|+f");
        x.read(1);
        int known = x.house(4);
        x.lay(0, 0);
        Check.due("h|g|f|a|b", x.whole(0));
        Check.due(known, x.ofLine(0, 0, 0));
        Check.due(known + 1, x.ofLine(0, 1, 0));
        Check.due(known + 2, x.ofLine(0, 2, 0));
    }

    private static void fault() {
        Check.at("promise 30");
        Check.due(-1, new Lineseam().fault(0));
        String[][] due = {
            {"-1", "@0,1,0,0|-a"}, {"-1", "@0,0,0,1|+"}, {"-1", "@30,1,30,1| a"}, {"-1", "@1,1,1,1|-a|+b"},
            {"-1", "@1,1,1,1|+a|-b"}, {"-1", "@0,1,0,2| a|+b|@1,1,2,1| c"}, {"-1", "@0,1,0,0|-a|@5,1,4,1| a"},
            {"0", ""}, {"0", "a"}, {"0", "@"}, {"0", "@0,0,0,0"}, {"0", "@0,1,1,1"}, {"0", "@1,1,0,1"},
            {"0", "@00,1,0,0"}, {"0", "@0,01,0,0"}, {"0", "@0,1,0,"}, {"0", "@0,1,0"}, {"0", "@0,1,0,0,"},
            {"0", "@0,1,0,0 "}, {"0", " @0,1,0,0"}, {"0", "@31,1,31,1"}, {"0", "@0,31,0,1"}, {"0", "@0,1,0,31"},
            {"0", "@0,100,0,1"}, {"0", "@012,1,12,1"}, {"0", "@000,1,0,1"},
            {"-1", "@12,1,12,1| a"}, {"-1", "@10,1,10,1| a"}, {"0", "@0,1,0,001"}, {"0", "@0,030,0,1"},
            {"0", "@,1,0,1"}, {"0", "@-1,1,0,1"}, {"0", "@0,1,0,+1"}, {"0", "@0 1,0,1"},
            {"0", "+a"}, {"0", " a"},
            {"1", "@0,1,0,0"}, {"1", "@0,1,0,0|+a"}, {"1", "@0,1,0,0| a"}, {"1", "@0,0,0,1|-a"},
            {"1", "@0,0,0,1| a"}, {"1", "@0,1,0,1|"}, {"1", "@0,1,0,1|@1,1,1,1"}, {"1", "@0,1,0,1|aa"},
            {"2", "@0,1,0,1|-a"}, {"2", "@0,1,0,1|-a|-a"}, {"2", "@0,1,0,1|-a| a"}, {"2", "@0,1,0,1| a|-a"},
            {"2", "@0,1,0,1| a|"}, {"2", "@0,30,0,30| a"},
            {"2", "@5,1,5,1| a|@5,1,5,1| a"}, {"2", "@5,1,5,1| a|@6,1,7,1| a"}, {"2", "@5,1,5,1| a|@7,1,6,1| a"},
            {"-1", "@5,1,5,1| a|@6,1,6,1| a"}, {"-1", "@5,1,5,1| a|@9,1,9,1| a"}, {"3", "@5,1,5,1| a|@9,1,9,1"},
            {"3", "@0,2,0,0|-a|-a|@2,1,1,1| a"}, {"-1", "@0,2,0,0|-a|-a|@2,1,0,1| a"},
        };
        for (String[] one : due) {
            Lineseam x = with(one[1]);
            Check.at("promise 30, " + one[1]);
            Check.due(one[0], x.fault(0));
            Check.due(one[0], x.read(0));
            Check.due(0, x.house(6));
        }
        Check.at("promise 30");
        Lineseam x = with("a");
        Check.refused(Check.INDEX, x, () -> x.fault(4));
        Check.refused(Check.INDEX, x, () -> x.fault(-1));
    }

    private static void lay() {
        Check.at("promise 31");
        Lineseam x = with("a|b|c|d|e|f|g", "a|x|c|d|e|y|g", "a|b|c|d|e|f|g");
        x.patch(0, 1, 1);
        Check.due(2, x.lay(2, 0));
        Check.due("a|x|c|d|e|y|g", x.whole(2));
        Check.due(0, x.lay(2, 9));
        Check.due(2, x.house(6));
        Check.due(2, x.house(5));
        Check.due("a|x|c|d|e|y|g", x.whole(2));
        // One is REFUSED, the other one not; SHIFT stays for the one behind.
        Check.set(x, 2, "q|a|b|c|q|q|q|e|f|g");
        Check.due(0, x.lay(2, 0));
        Check.due(1, x.lay(2, 1));
        Check.due("q|a|x|c|q|q|q|e|f|g", x.whole(2));
        Check.set(x, 2, "q|a|b|c|q|q|q|e|f|g");
        Check.due(2, x.lay(2, 2));
        Check.due("q|a|x|c|q|q|q|e|y|g", x.whole(2));
        Check.due(0, x.house(6));
        // The place itself, then 1 less, then 1 more.
        Check.set(x, 0, "p|p|p|k|p");
        Check.set(x, 1, "p|p|p|l|p");
        x.patch(0, 1, 0);
        Check.set(x, 2, "p|p|k|k|k");
        x.lay(2, 9);
        Check.due("p|p|k|l|k", x.whole(2));
        Check.set(x, 2, "p|p|k|p|k");
        x.lay(2, 9);
        Check.due("p|p|l|p|k", x.whole(2));
        Check.set(x, 2, "k|k|p|p|k");
        x.lay(2, 9);
        Check.due("k|k|p|p|l", x.whole(2));
        Check.set(x, 2, "k|p|p|p|p|p|p");
        Check.due(0, x.lay(2, 2));
        Check.due(1, x.lay(2, 3));
        Check.due("l|p|p|p|p|p|p", x.whole(2));
        Check.refused(Check.INDEX, x, () -> x.lay(4, 10));
        Check.refused(Check.INDEX, x, () -> x.lay(-1, 0));
        Check.refused(Check.ARGUMENT, x, () -> x.lay(0, 10));
        Check.refused(Check.ARGUMENT, x, () -> x.lay(0, -1));
    }

    private static void layLimits() {
        Check.at("promise 31, LOW and the ends");
        // Not ahead of what the HUNK before became, even where it would fit.
        Lineseam x = with("a|q|a|z", "@0,0,0,1|+a|@0,1,1,0|-a");
        x.cut(0, 1, 4);
        x.read(1);
        Check.due(2, x.lay(0, 0));
        Check.due("a", x.whole(0));
        Check.set(x, 0, "b|a");
        Check.set(x, 1, "@1,1,1,0|-a|@2,1,1,0|-b");
        x.read(1);
        Check.due(1, x.lay(0, 9));
        Check.due("b", x.whole(0));
        Check.due(1, x.house(6));
        Check.due(1, x.again());
        Check.due("-b", x.hunk(0));
        // Without OLD it fits at each place up to the end, and not behind it.
        Check.set(x, 0, "a|b");
        Check.set(x, 1, "@4,0,4,1|+c");
        x.read(1);
        Check.due(0, x.lay(0, 1));
        Check.due(1, x.lay(0, 2));
        Check.due("a|b|c", x.whole(0));
        // SHIFT goes on from where the HUNK was laid.
        Check.set(x, 0, "x|x|a|b|b|c");
        Check.set(x, 1, "@0,1,0,2| a|+h|@3,1,4,1|-c|+d");
        x.read(1);
        Check.due(2, x.lay(0, 2));
        Check.due("x|x|a|h|b|b|d", x.whole(0));
        // More than 30 LINES on the way are no matter, at the end they are.
        Lineseam f = full();
        Check.set(f, 1, "@0,0,0,1|+h|@29,1,30,0|-d");
        Check.due(-1, f.read(1));
        Check.due(2, f.lay(0, 0));
        Check.due(30, f.house(0));
        Check.set(f, 1, "@0,0,0,1|+g");
        f.read(1);
        Check.refused(Check.STATE, f, () -> f.lay(0, 0));
        Check.refused(Check.ARGUMENT, f, () -> f.lay(0, 10));
        Check.set(f, 1, "@0,1,0,1|-g|+f|@1,0,1,1|+f");
        f.read(1);
        Check.due(0, f.house(6));
        Check.refused(Check.STATE, f, () -> f.lay(0, 0));
        Check.due(0, f.house(6));
        f.cut(0, 0, 1);
        Check.due(1, f.lay(0, 0));
        Check.due(1, f.house(6));
        // No PATCH: nothing is done, but what was REFUSED is gone.
        f.patch(0, 0, 0);
        Check.due(0, f.lay(0, 0));
        Check.due(0, f.house(6));
    }

    private static void again() {
        Check.at("promise 32");
        Lineseam x = with("a|b|c|d|e", "a|x|c|y|e", "a|b|c|q|e");
        x.patch(0, 1, 0);
        Check.due(1, x.lay(2, 0));
        // What is REFUSED is not turned with the PATCH, nor changed by a new one.
        x.turn();
        x.patch(0, 3, 0);
        Check.due(1, x.house(6));
        Check.due(1, x.again());
        Check.due(0, x.house(6));
        Check.due(1, x.house(5));
        Check.due("-d|+y", x.hunk(0));
        Check.due(3, x.ofHunk(0, 0));
        Check.due(3, x.ofHunk(0, 2));
        x.turn();
        Check.due(0, x.lay(2, 9));
        Check.due(1, x.again());
        Check.due("+d|-y", x.hunk(0));
        Check.due(0, x.again());
        Check.due(0, x.house(5));
        // Behind again() what is written may have a FAULT.
        x.cut(0, 0, 5);
        Check.fill(x, 0, "a|b|c");
        Check.set(x, 1, "n|a|b|d");
        Check.set(x, 2, "z");
        x.patch(0, 1, 0);
        Check.due(1, x.lay(2, 0));
        x.again();
        x.write(3);
        Check.due("@2,1,3,1|-c|+d", x.whole(3));
        Check.due(0, x.fault(3));
    }

    private static void ofHunk() {
        Check.at("promise 33");
        Lineseam x = with("a|b|c|d|e|f", "a|c|d|e|x|y|f");
        x.patch(0, 1, 1);
        int[][] due = {{0, 3, 0, 2, 3}, {4, 2, 3, 4, 4}};
        for (int h = 0; h < 2; h++) {
            for (int what = 0; what < 5; what++) {
                Check.due(due[h][what], x.ofHunk(h, what));
            }
        }
        Check.refused(Check.INDEX, x, () -> x.ofHunk(2, 5));
        Check.refused(Check.INDEX, x, () -> x.ofHunk(-1, 0));
        Check.refused(Check.ARGUMENT, x, () -> x.ofHunk(0, 5));
        Check.refused(Check.ARGUMENT, x, () -> x.ofHunk(0, -1));
    }

    private static void hunk() {
        Check.at("promise 34");
        Lineseam x = with("a||b", "a|b| ");
        x.patch(0, 1, 0);
        Check.due("-", x.hunk(0));
        Check.due("+ ", x.hunk(1));
        x.patch(0, 1, 1);
        Check.due(" a|-| b|+ ", x.hunk(0));
        Check.refused(Check.INDEX, x, () -> x.hunk(1));
        Check.refused(Check.INDEX, x, () -> x.hunk(-1));
        Lineseam y = new Lineseam();
        Check.refused(Check.INDEX, y, () -> y.hunk(0));
    }

    // ---- joins

    private static void join() {
        Check.at("promise 35");
        Lineseam x = with("a|b|c|d|e", "a|x|c|d|e|n", "m|a|b|c|y|e");
        Check.due(0, x.join(3, 0, 1, 2, 0));
        Check.due("m|a|x|c|y|e|n", x.whole(3));
        // Both SIDES changed alike.
        Check.set(x, 2, "a|x|c|d|e|n");
        Check.due(0, x.join(3, 0, 1, 2, 2));
        Check.due("a|x|c|d|e|n", x.whole(3));
        Check.set(x, 2, "a|y|z|c|e|o");
        String[] due = {"a|x|c|e|n", "a|y|z|c|e|o", "a|b|c|e", "a|x|y|z|c|e|n|o"};
        for (int choice = 0; choice < 4; choice++) {
            Check.due(2, x.join(3, 0, 1, 2, choice));
            Check.due(due[choice], x.whole(3));
        }
        // Without any ANCHOR all is one GAP.
        Check.set(x, 0, "q");
        Check.due(1, x.join(3, 0, 1, 2, 3));
        Check.due("a|x|c|d|e|n|a|y|z|c|e|o", x.whole(3));
        Check.refused(Check.INDEX, x, () -> x.join(4, 0, 1, 2, 4));
        Check.refused(Check.INDEX, x, () -> x.join(0, 4, 1, 2, 0));
        Check.refused(Check.INDEX, x, () -> x.join(0, 0, -1, 2, 0));
        Check.refused(Check.INDEX, x, () -> x.join(0, 0, 1, 4, 0));
        Check.refused(Check.ARGUMENT, x, () -> x.join(0, 0, 1, 2, 4));
        Check.refused(Check.ARGUMENT, x, () -> x.join(0, 0, 1, 2, -1));
        Check.due(0, x.join(1, 1, 1, 1, 0));
        Check.due("a|x|c|d|e|n", x.whole(1));
        Check.due(1, x.join(0, 0, 1, 2, 1));
        Check.due("a|y|z|c|e|o", x.whole(0));
        // 30 LINES fit, 31 do not, and the QUARRELS of the JOIN before stay.
        Lineseam f = full();
        Check.fill(f, 1, "x|y");
        Check.fill(f, 2, "z");
        Check.due(1, f.join(3, 2, 1, 0, 0));
        Check.refused(Check.STATE, f, () -> f.join(3, 2, 1, 0, 3));
        Check.refused(Check.ARGUMENT, f, () -> f.join(3, 2, 1, 0, 4));
        f.cut(0, 0, 2);
        Check.due(1, f.join(3, 2, 1, 0, 3));
        Check.due(30, f.house(3));
        Check.refused(Check.STATE, f, () -> f.join(3, 2, 1, 3, 3));
        Check.due(1, f.house(7));
        Check.due(28, f.quarrel(0, 3));
    }

    private static void wouldJoin() {
        Check.at("promise 36");
        Lineseam x = with("a|b|c|d|e", "a|x|c|y|e", "a|z|c|z|e");
        Check.due(2, x.wouldJoin(0, 1, 2));
        Check.due(0, x.house(7));
        Check.due(0, x.wouldJoin(0, 1, 1));
        Check.due(0, x.wouldJoin(0, 0, 2));
        Check.due(0, x.wouldJoin(3, 3, 3));
        Check.due(1, x.wouldJoin(3, 1, 2));
        x.join(3, 0, 1, 2, 0);
        long was = x.digest();
        Check.due(0, x.wouldJoin(1, 1, 2));
        Check.due(was, x.digest());
        Check.refused(Check.INDEX, x, () -> x.wouldJoin(4, 0, 0));
        Check.refused(Check.INDEX, x, () -> x.wouldJoin(0, -1, 0));
        Check.refused(Check.INDEX, x, () -> x.wouldJoin(0, 0, 4));
        Lineseam f = full();
        Check.set(f, 1, "x");
        Check.due(1, f.wouldJoin(2, 1, 0));
    }

    private static void quarrel() {
        Check.at("promise 37");
        Lineseam x = with("a|b|c|d|e", "n|n|a|x|x|c|e", "a|y|c|f|f|f|e");
        Check.refused(Check.INDEX, x, () -> x.quarrel(0, 0));
        Check.due(2, x.join(3, 0, 1, 2, 3));
        int[][] due = {{3, 1, 2, 1, 3}, {7, 1, 0, 3, 3}};
        for (int q = 0; q < 2; q++) {
            for (int what = 0; what < 5; what++) {
                Check.due(due[q][what], x.quarrel(q, what));
            }
        }
        Check.refused(Check.INDEX, x, () -> x.quarrel(2, 5));
        Check.refused(Check.INDEX, x, () -> x.quarrel(-1, 0));
        Check.refused(Check.ARGUMENT, x, () -> x.quarrel(0, 5));
        Check.refused(Check.ARGUMENT, x, () -> x.quarrel(0, -1));
        x.join(3, 0, 1, 2, 1);
        Check.due(1, x.quarrel(0, 4));
        Check.due(5, x.quarrel(1, 0));
        x.wouldJoin(0, 0, 0);
        x.isSound();
        Check.due(2, x.house(7));
        x.join(3, 0, 0, 0, 1);
        Check.refused(Check.INDEX, x, () -> x.quarrel(0, 0));
    }

    // ---- versions, and all

    private static void keep() {
        Check.at("promise 38");
        Lineseam x = with("a|b");
        Check.due(0, x.keep(0));
        Check.due(1, x.keep(1));
        x.cut(0, 0, 1);
        Check.due(2, x.ofVersion(0, 0));
        Check.refused(Check.INDEX, x, () -> x.keep(4));
        Check.refused(Check.INDEX, x, () -> x.keep(-1));
        for (int v = 2; v < 8; v++) {
            Check.due(v, x.keep(0));
        }
        Check.refused(Check.STATE, x, () -> x.keep(0));
        Check.refused(Check.INDEX, x, () -> x.keep(4));
        Check.due(8, x.house(8));
    }

    private static void asOf() {
        Check.at("promise 39");
        Lineseam x = with("a|b|c");
        x.keep(0);
        x.cut(0, 0, 2);
        x.keep(0);
        Check.due(3, x.asOf(2, 0));
        Check.due("a|b|c", x.whole(2));
        Check.due(1, x.asOf(2, 1));
        Check.due("c", x.whole(2));
        x.cut(2, 0, 1);
        Check.due(1, x.asOf(3, 1));
        Check.refused(Check.INDEX, x, () -> x.asOf(0, 2));
        Check.refused(Check.INDEX, x, () -> x.asOf(0, -1));
        Check.refused(Check.INDEX, x, () -> x.asOf(4, 0));
    }

    private static void blame() {
        Check.at("promise 40");
        Lineseam x = with("a|b|c");
        x.keep(0);
        Check.due(0, x.blame(0, 2, false));
        Check.due(0, x.blame(0, 2, true));
        Check.set(x, 0, "a|n|c");
        x.keep(0);
        Check.set(x, 0, "c|n|a");
        x.keep(0);
        Check.set(x, 0, "b|c|a");
        x.keep(0);
        for (int v = 0; v < 4; v++) {
            for (int k = 0; k < 3; k++) {
                Check.at("promise 40, version " + v + " line " + k);
                Check.due(blame(x, v, k), x.blame(v, k, false));
                Check.due(life(x, v, k), x.blame(v, k, true));
            }
        }
        Check.at("promise 40");
        Check.due(1, x.blame(1, 1, false));
        Check.due(0, x.blame(0, 1, true));
        Check.due(3, x.blame(3, 0, false));
        Check.refused(Check.INDEX, x, () -> x.blame(4, 0, false));
        Check.refused(Check.INDEX, x, () -> x.blame(-1, 0, true));
        Check.refused(Check.INDEX, x, () -> x.blame(0, 3, true));
        Check.refused(Check.INDEX, x, () -> x.blame(0, -1, false));
    }

    /** By script() alone: the LINE of a VERSION is followed back, VERSION by VERSION, while it STAYS. */
    private static int blame(Lineseam x, int version, int place) {
        int at = place;
        for (int v = version; v > 0; v--) {
            at = follow(x, v - 1, v, at, false);
            if (at < 0) {
                return v;
            }
        }
        return 0;
    }

    private static int life(Lineseam x, int version, int place) {
        int at = place;
        for (int v = version; v < x.house(8) - 1; v++) {
            at = follow(x, v, v + 1, at, true);
            if (at < 0) {
                return v;
            }
        }
        return x.house(8) - 1;
    }

    private static int follow(Lineseam x, int older, int newer, int place, boolean isForth) {
        x.asOf(2, older);
        x.asOf(3, newer);
        int i = 0;
        int j = 0;
        for (char step : x.script(2, 3, false).toCharArray()) {
            if (isForth && i == place && step != '+') {
                return step == '=' ? j : -1;
            }
            if (!isForth && j == place && step != '-') {
                return step == '=' ? i : -1;
            }
            i += step == '+' ? 0 : 1;
            j += step == '-' ? 0 : 1;
        }
        return -2;
    }

    private static void ofVersion() {
        Check.at("promise 41");
        Lineseam x = with("a|b|c|d");
        x.keep(0);
        Check.set(x, 0, "a|x|y|c");
        x.keep(0);
        Check.set(x, 0, "x|c|z");
        x.keep(0);
        int[][] due = {{4, 4, 0, 4}, {4, 2, 2, 2}, {3, 1, 2, 1}};
        for (int v = 0; v < 3; v++) {
            for (int what = 0; what < 4; what++) {
                Check.due(due[v][what], x.ofVersion(v, what));
            }
        }
        Check.refused(Check.INDEX, x, () -> x.ofVersion(3, 4));
        Check.refused(Check.INDEX, x, () -> x.ofVersion(-1, 0));
        Check.refused(Check.ARGUMENT, x, () -> x.ofVersion(0, 4));
        Check.refused(Check.ARGUMENT, x, () -> x.ofVersion(2, -1));
    }

    private static void knock() {
        Check.at("promise 42");
        Lineseam x = new Lineseam();
        Check.due(1, x.knock());
        Check.due(2, x.knock());
        Check.due(2, x.house(9));
        Check.due(3, x.knock());
    }

    private static void house() {
        Check.at("promise 43");
        Lineseam x = with("a|b|c", "d|e", "f", "a|x|y|z");
        x.patch(0, 3, 0);
        x.lay(1, 0);
        x.patch(0, 1, 0);
        x.join(2, 1, 0, 3, 0);
        x.keep(0);
        x.keep(0);
        x.knock();
        int[] due = {3, 2, 3, 4, 9, 1, 1, 1, 2, 1};
        for (int what = 0; what < 10; what++) {
            Check.due(due[what], x.house(what));
        }
        Check.refused(Check.ARGUMENT, x, () -> x.house(10));
        Check.refused(Check.ARGUMENT, x, () -> x.house(-1));
        Check.refused(Check.ARGUMENT, x, () -> x.house(MAX));
        Check.refused(Check.ARGUMENT, x, () -> x.house(MIN));
    }

    /** The rules tell that it is so for each state that can be reached; here it has to be told, and change nothing. */
    private static void isSound() {
        Check.at("promise 44");
        Check.due(true, new Lineseam().isSound());
        Lineseam x = with("a|b|c|a b|", "c|ab|a|b", "a|x| |ab ", "@0,1,0,0|-a");
        x.keep(0);
        x.keep(1);
        x.keep(2);
        x.read(3);
        x.lay(2, 9);
        x.join(3, 0, 1, 2, 3);
        x.walk(1);
        x.forth();
        long was = x.digest();
        Check.due(true, x.isSound());
        Check.due(was, x.digest());
        Check.due(true, full().isSound());
    }

    /** The sum is done here once more, from the answers of all the other calls. */
    private static void digest() {
        Check.at("promise 45");
        Check.due(sum(new Lineseam()), new Lineseam().digest());
        Lineseam x = with("a|b|c|a b|", "c|ab|a|b", "a|x| |ab ", "@0,1,0,0|-a");
        x.keep(0);
        x.keep(1);
        x.keep(2);
        x.patch(0, 2, 1);
        x.lay(1, 0);
        x.join(3, 0, 1, 2, 3);
        Check.set(x, 3, "a|b");
        Check.due(false, x.wouldJoin(0, 1, 2) == x.wouldJoin(0, 1, 3));
        x.walk(1);
        x.forth();
        x.knock();
        Check.type(x, "abc");
        Check.due(sum(x), x.digest());
        Check.due(x.digest(), x.digest());
        Check.due(sum(full()), full().digest());
    }

    private static long sum;

    private static void take(long v) {
        sum = sum * 31 + v;
    }

    private static long sum(Lineseam x) {
        sum = 5400;
        for (int what = 0; what < 10; what++) {
            take(x.house(what));
        }
        for (int what = 0; what < 3; what++) {
            take(x.cursor(what));
        }
        take(x.draft().length());
        for (int t = 0; t < 4; t++) {
            for (int k = 0; k < x.house(t); k++) {
                take(x.ofLine(t, k, 0));
                take(x.ofLine(t, k, 1));
            }
        }
        for (int t = 0; t < 4; t++) {
            for (int u = 0; u < 4; u++) {
                take(x.ofScript(t, u, false, 0));
                take(x.ofScript(t, u, false, 3));
                take(x.ofScript(t, u, true, 0));
                take(x.moves(t, u));
            }
        }
        for (int t = 0; t < 4; t++) {
            take(x.fault(t));
        }
        for (int h = 0; h < x.house(5); h++) {
            for (int what = 0; what < 5; what++) {
                take(x.ofHunk(h, what));
            }
            take(x.hunk(h).length());
        }
        take(x.wouldJoin(0, 1, 2));
        for (int q = 0; q < x.house(7); q++) {
            for (int what = 0; what < 5; what++) {
                take(x.quarrel(q, what));
            }
        }
        for (int v = 0; v < x.house(8); v++) {
            for (int what = 0; what < 4; what++) {
                take(x.ofVersion(v, what));
            }
            for (int k = 0; k < x.ofVersion(v, 0); k++) {
                take(x.blame(v, k, false));
                take(x.blame(v, k, true));
            }
        }
        take(x.isSound() ? 1 : 0);
        return sum;
    }
}
