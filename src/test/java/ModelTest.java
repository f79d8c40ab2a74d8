import java.util.ArrayList;
import java.util.List;

/** Long runs of calls on Lineseam and on the Model; every answer, and every exception, has to be the same. */
public final class ModelTest {
    private static final int CALLS = 512;

    private long seed;
    private Lineseam real;
    private Model model;
    private final List<String> told = new ArrayList<>();

    private interface Call {
        Object answer();
    }

    public static void main(String[] args) {
        int runs = args.length > 0 ? Integer.parseInt(args[0]) : 300;
        int wrong = 0;
        for (int run = 0; run < runs && wrong < 5; run++) {
            wrong += new ModelTest().isRunRight(run) ? 0 : 1;
        }
        System.out.println(runs + " runs against the model, " + wrong + " of them wrong");
        if (wrong > 0) {
            System.exit(1);
        }
    }

    private boolean isRunRight(int run) {
        seed = 88172645463325252L + run * 7919L;
        real = new Lineseam();
        model = new Model();
        int style = run % 8;
        if (style > 5) {
            fillUp();
        }
        for (int call = 0; call < CALLS; call++) {
            if (!isCallRight(style)) {
                System.out.println("run " + run + ", call " + call);
                for (String row : told.subList(Math.max(0, told.size() - 40), told.size())) {
                    System.out.println("  " + row);
                }
                return false;
            }
        }
        return true;
    }

    /** TEXTS with some 30 LINES, alike in most of them, so that scripts, moves and joins have much to do. */
    private void fillUp() {
        int letters = 4 + below(23);
        for (int place = 0; place < 26 + below(5); place++) {
            int p = place;
            int word = below(letters);
            same("add(0, " + p + ", " + word + ")", () -> real.add(0, p, word), () -> model.add(0, p, word));
        }
        for (int text = 1; text < 4; text++) {
            int t = text;
            same("copy(" + t + ", 0)", () -> real.copy(t, 0), () -> model.copy(t, 0));
            for (int k = 0; k < 4; k++) {
                int from = below(20);
                int to = from + below(6);
                same("carry(" + t + ", " + from + ", " + to + ")",
                        () -> real.carry(t, from, to), () -> model.carry(t, from, to));
                same("change(" + t + ", " + from + ")", () -> real.change(t, from), () -> model.change(t, from));
            }
        }
    }

    private int below(int bound) {
        seed ^= seed << 13;
        seed ^= seed >>> 7;
        seed ^= seed << 17;
        return (int) Math.floorMod(seed >>> 11, (long) bound);
    }

    /** A number that is now and then just outside, or far outside, of 0 to bound - 1. */
    private int about(int bound) {
        int kind = below(40);
        if (kind == 0) {
            return -1;
        }
        if (kind == 1) {
            return bound;
        }
        if (kind == 2) {
            int[] far = {Integer.MIN_VALUE, Integer.MAX_VALUE, bound + 1, -2};
            return far[below(far.length)];
        }
        return bound <= 0 ? 0 : below(bound);
    }

    private int size(int text) {
        return text >= 0 && text < 4 ? model.house(text) : 3;
    }

    private boolean isCallRight(int style) {
        int t = about(4);
        int u = about(4);
        int v = about(4);
        int w = about(4);
        switch (pick(style)) {
            case 0: return typed();
            case 1: {
                int p = about(size(t) + 1);
                return same("put(" + t + ", " + p + ")", () -> real.put(t, p), () -> model.put(t, p));
            }
            case 2: {
                int p = about(size(t) + 1);
                int word = below(5) == 0 ? about(26) : about(style == 5 ? 3 : 6);
                return same("add(" + t + ", " + p + ", " + word + ")",
                        () -> real.add(t, p, word), () -> model.add(t, p, word));
            }
            case 3: {
                int p = about(size(t));
                return same("change(" + t + ", " + p + ")", () -> real.change(t, p), () -> model.change(t, p));
            }
            case 4: {
                int from = about(size(t) + 1);
                int to = below(3) > 0 ? from + below(3) : about(size(t) + 1);
                return same("cut(" + t + ", " + from + ", " + to + ")",
                        () -> real.cut(t, from, to), () -> model.cut(t, from, to));
            }
            case 5: return same("copy(" + t + ", " + u + ")", () -> real.copy(t, u), () -> model.copy(t, u));
            case 6: {
                int from = about(size(t) + 1);
                int to = below(3) > 0 ? from + below(4) : about(size(t) + 1);
                return same("carry(" + t + ", " + from + ", " + to + ")",
                        () -> real.carry(t, from, to), () -> model.carry(t, from, to));
            }
            case 7: return asked(t, u);
            case 8: return walked(t);
            case 9: return compared(t, u);
            case 10: {
                int c = about(4);
                return same("patch(" + t + ", " + u + ", " + c + ")",
                        () -> real.patch(t, u, c), () -> model.patch(t, u, c));
            }
            case 11: return same("turn()", () -> real.turn(), () -> model.turn());
            case 12: return same("write(" + t + ")", () -> real.write(t), () -> model.write(t));
            case 13: return same("read(" + t + ")", () -> real.read(t), () -> model.read(t));
            case 14: return same("fault(" + t + ")", () -> real.fault(t), () -> model.fault(t));
            case 15: {
                int g = about(10);
                return same("lay(" + t + ", " + g + ")", () -> real.lay(t, g), () -> model.lay(t, g));
            }
            case 16: return same("again()", () -> real.again(), () -> model.again());
            case 17: {
                int h = about(model.house(5));
                int what = about(5);
                return same("ofHunk(" + h + ", " + what + ")",
                        () -> real.ofHunk(h, what), () -> model.ofHunk(h, what))
                        && same("hunk(" + h + ")", () -> real.hunk(h), () -> model.hunk(h));
            }
            case 18: {
                int c = about(4);
                return same("join(" + t + ", " + u + ", " + v + ", " + w + ", " + c + ")",
                        () -> real.join(t, u, v, w, c), () -> model.join(t, u, v, w, c));
            }
            case 19: return same("wouldJoin(" + t + ", " + u + ", " + v + ")",
                    () -> real.wouldJoin(t, u, v), () -> model.wouldJoin(t, u, v));
            case 20: {
                int q = about(model.house(7));
                int what = about(5);
                return same("quarrel(" + q + ", " + what + ")",
                        () -> real.quarrel(q, what), () -> model.quarrel(q, what));
            }
            case 21: return same("keep(" + t + ")", () -> real.keep(t), () -> model.keep(t));
            case 22: return versioned(t);
            case 23: return same("knock()", () -> real.knock(), () -> model.knock());
            default: {
                int what = about(10);
                return same("house(" + what + ")", () -> real.house(what), () -> model.house(what))
                        && (below(6) > 0 || same("digest()", () -> real.digest(), () -> model.digest()));
            }
        }
    }

    /** Which calls are made how often: the styles dwell on typing, patches, joins, versions, the cursor.. */
    private int pick(int style) {
        int[][] dwelt = {
            {0, 0, 1, 2, 2, 3, 4, 5, 6, 9, 9},
            {2, 2, 2, 4, 5, 10, 10, 11, 15, 15, 15, 16, 17},
            {2, 2, 4, 5, 6, 18, 18, 19, 20},
            {2, 2, 2, 4, 6, 21, 22, 22},
            {2, 4, 8, 8, 8, 8, 8, 5},
            {0, 0, 1, 2, 2, 4, 5, 10, 12, 12, 13, 13, 14, 15, 11, 17},
            {3, 4, 2, 4, 2, 5, 6, 6, 10, 15, 11, 16, 17, 9, 9},
            {3, 4, 2, 4, 2, 5, 6, 6, 18, 18, 19, 20, 21, 22, 24},
        };
        return below(3) == 0 ? below(25) : dwelt[style][below(dwelt[style].length)];
    }

    private boolean typed() {
        if (below(7) == 0) {
            int many = below(3) == 0 ? about(13) : below(20) == 0 ? Integer.MAX_VALUE : about(4);
            return same("erase(" + many + ")", () -> real.erase(many), () -> model.erase(many));
        }
        if (below(6) == 0) {
            return typedHead();
        }
        int sign = below(3) > 0 ? new int[] {0, 1, 8, 21, 22, 19, 20, 9, 10}[below(9)] : about(23);
        return same("sign(" + sign + ")", () -> real.sign(sign), () -> model.sign(sign))
                && same("draft()", () -> real.draft(), () -> model.draft());
    }

    /** A HEAD, most often one that can be there. */
    private boolean typedHead() {
        boolean isRight = same("erase(99)", () -> real.erase(99), () -> model.erase(99));
        int from = below(3);
        String head = "@" + from + "," + below(3) + "," + (below(5) == 0 ? below(32) : from) + "," + below(3);
        if (below(8) == 0) {
            head = head.replace("1", "01");
        }
        for (char c : head.toCharArray()) {
            int sign = "abcdefgh 0123456789@,+-".indexOf(c);
            isRight &= same("sign(" + sign + ")", () -> real.sign(sign), () -> model.sign(sign));
        }
        int t = below(4);
        int p = below(3) == 0 ? size(t) : 0;
        return isRight && same("put(" + t + ", " + p + ")", () -> real.put(t, p), () -> model.put(t, p));
    }

    private boolean asked(int t, int u) {
        int p = about(size(t));
        int q = about(size(u));
        int what = about(4);
        return same("line(" + t + ", " + p + ")", () -> real.line(t, p), () -> model.line(t, p))
                && same("ofLine(" + t + ", " + p + ", " + what + ")",
                        () -> real.ofLine(t, p, what), () -> model.ofLine(t, p, what))
                && same("whole(" + t + ")", () -> real.whole(t), () -> model.whole(t))
                && same("within(" + t + ", " + p + ", " + u + ", " + q + ")",
                        () -> real.within(t, p, u, q), () -> model.within(t, p, u, q));
    }

    private boolean walked(int t) {
        int word = about(26);
        int what = about(3);
        switch (below(model.cursor(0) == -1 ? 3 : 12)) {
            case 0: return same("walk(" + t + ")", () -> real.walk(t), () -> model.walk(t));
            case 1: return same("mend(" + word + ")", () -> real.mend(word), () -> model.mend(word));
            case 2: return same("slip(" + word + ")", () -> real.slip(word), () -> model.slip(word));
            case 3: return same("strike()", () -> real.strike(), () -> model.strike());
            case 4: return same("mend(" + word + ")", () -> real.mend(word), () -> model.mend(word));
            case 5:
            case 6: return same("back()", () -> real.back(), () -> model.back());
            case 7: return same("cursor(" + what + ")", () -> real.cursor(what), () -> model.cursor(what));
            case 8: return same("slip(" + word + ")", () -> real.slip(word), () -> model.slip(word));
            default: return same("forth()", () -> real.forth(), () -> model.forth());
        }
    }

    private boolean compared(int t, int u) {
        boolean isLoose = below(2) == 0;
        int what = about(5);
        int part = about(3);
        boolean isRight = same("script(" + t + ", " + u + ", " + isLoose + ")",
                () -> real.script(t, u, isLoose), () -> model.script(t, u, isLoose));
        isRight &= same("ofScript(" + t + ", " + u + ", " + isLoose + ", " + what + ")",
                () -> real.ofScript(t, u, isLoose, what), () -> model.ofScript(t, u, isLoose, what));
        isRight &= same("moves(" + t + ", " + u + ")", () -> real.moves(t, u), () -> model.moves(t, u));
        int move = about(t >= 0 && t < 4 && u >= 0 && u < 4 ? model.moves(t, u) : 1);
        return isRight && same("ofMove(" + t + ", " + u + ", " + move + ", " + part + ")",
                () -> real.ofMove(t, u, move, part), () -> model.ofMove(t, u, move, part));
    }

    private boolean versioned(int t) {
        int version = about(model.house(8));
        int what = about(4);
        int place = about(version >= 0 && version < model.house(8) ? model.ofVersion(version, 0) : 1);
        boolean isLife = below(2) == 0;
        switch (below(4)) {
            case 0: return same("asOf(" + t + ", " + version + ")",
                    () -> real.asOf(t, version), () -> model.asOf(t, version));
            case 1: return same("ofVersion(" + version + ", " + what + ")",
                    () -> real.ofVersion(version, what), () -> model.ofVersion(version, what));
            default: return same("blame(" + version + ", " + place + ", " + isLife + ")",
                    () -> real.blame(version, place, isLife), () -> model.blame(version, place, isLife));
        }
    }

    private boolean same(String call, Call ofReal, Call ofModel) {
        String got = outcome(ofReal);
        String due = outcome(ofModel);
        told.add(call + " -> " + due);
        boolean isSame = got.equals(due);
        // Behind an exception nothing may be changed: the digest tells of all that there is.
        if (isSame && due.startsWith("java.") && below(8) == 0) {
            isSame = real.digest() == model.digest();
        }
        if (!isSame) {
            System.out.println(call + " answered " + got + ", due is " + due);
        }
        return isSame;
    }

    private static String outcome(Call call) {
        try {
            return String.valueOf(call.answer());
        } catch (IndexOutOfBoundsException | IllegalArgumentException | IllegalStateException e) {
            return thrownHere(e) ? e.getClass().getName() : "the machine's " + e;
        }
    }

    /** Only what the two classes throw themselves counts, not what the machine or the library throws in them. */
    private static boolean thrownHere(RuntimeException e) {
        Class<?> kind = e.getClass();
        String at = e.getStackTrace().length > 0 ? e.getStackTrace()[0].getClassName() : "";
        return (at.startsWith("Lineseam") || at.startsWith("Model"))
                && (kind == IndexOutOfBoundsException.class || kind == IllegalArgumentException.class
                || kind == IllegalStateException.class);
    }
}
