import java.util.ArrayList;
import java.util.Collections;
import java.util.HashMap;
import java.util.List;
import java.util.Map;
import java.util.regex.Matcher;
import java.util.regex.Pattern;

/**
 * The document once more, sentence by sentence, with the Java library and without a thought of speed or room.
 * ModelTest holds Lineseam against it. It shares no code with the class, so that one slip does not hide in both.
 */
final class Model {
    static final class Step {
        final char kind;
        final String line;
        final int i;
        final int j;

        Step(char kind, String line, int i, int j) {
            this.kind = kind;
            this.line = line;
            this.i = i;
            this.j = j;
        }
    }

    static final class Hunk {
        int from;
        int to;
        final List<String> marked = new ArrayList<>();

        Hunk copy() {
            Hunk h = new Hunk();
            h.from = from;
            h.to = to;
            h.marked.addAll(marked);
            return h;
        }

        List<String> old() {
            return side('+');
        }

        List<String> young() {
            return side('-');
        }

        private List<String> side(char without) {
            List<String> side = new ArrayList<>();
            for (String m : marked) {
                if (m.charAt(0) != without) {
                    side.add(m.substring(1));
                }
            }
            return side;
        }
    }

    private static final String SIGNS = "abcdefgh 0123456789@,+-";

    private final StringBuilder draft = new StringBuilder();
    private final List<List<String>> texts = new ArrayList<>();
    private final Map<String, Integer> numbers = new HashMap<>();
    private List<Hunk> patch = new ArrayList<>();
    private List<Hunk> refused = new ArrayList<>();
    private List<int[]> quarrels = new ArrayList<>();
    private final List<List<String>> versions = new ArrayList<>();
    private int knocks;
    private boolean hasCursor;
    private int cursorText;
    private int cursorPlace;
    private int passed = -1;

    Model() {
        for (int t = 0; t < 4; t++) {
            texts.add(new ArrayList<>());
        }
    }

    // ---- lines and texts

    int sign(int sign) {
        argument(sign >= 0 && sign <= 22);
        state(draft.length() < 12);
        draft.append(SIGNS.charAt(sign));
        return draft.length();
    }

    int erase(int many) {
        argument(many >= 0);
        for (int k = 0; k < many && draft.length() > 0; k++) {
            draft.deleteCharAt(draft.length() - 1);
        }
        return draft.length();
    }

    String draft() {
        return draft.toString();
    }

    int put(int text, int place) {
        index(isText(text) && place >= 0 && place <= texts.get(text).size());
        state(texts.get(text).size() < 30);
        texts.get(text).add(place, draft());
        changed(text);
        return numbers.get(draft());
    }

    int add(int text, int place, int word) {
        index(isText(text) && place >= 0 && place <= texts.get(text).size());
        argument(word >= 0 && word <= 25);
        state(texts.get(text).size() < 30);
        texts.get(text).add(place, word(word));
        changed(text);
        return numbers.get(word(word));
    }

    int change(int text, int place) {
        index(isLine(text, place));
        int was = numbers.get(texts.get(text).get(place));
        texts.get(text).set(place, draft());
        changed(text);
        return was;
    }

    int cut(int text, int from, int to) {
        index(isText(text) && from >= 0 && to <= texts.get(text).size() && from <= to);
        texts.get(text).subList(from, to).clear();
        changed(text);
        return texts.get(text).size();
    }

    int copy(int text, int other) {
        index(isText(text) && isText(other));
        become(text, texts.get(other));
        return texts.get(text).size();
    }

    int carry(int text, int from, int to) {
        index(isText(text) && from >= 0 && to <= texts.get(text).size() && from <= to);
        for (int k = from; k < to; k++) {
            texts.get(text).add(texts.get(text).remove(from));
        }
        changed(text);
        return to - from;
    }

    String line(int text, int place) {
        index(isLine(text, place));
        return texts.get(text).get(place);
    }

    int ofLine(int text, int place, int what) {
        index(isLine(text, place));
        argument(what >= 0 && what <= 3);
        String line = texts.get(text).get(place);
        return new int[] {numbers.get(line), texts.get(text).indexOf(line), texts.get(text).lastIndexOf(line),
            line.length()}[what];
    }

    String whole(int text) {
        index(isText(text));
        return String.join("|", texts.get(text));
    }

    // ---- the cursor

    int walk(int text) {
        index(isText(text));
        hasCursor = true;
        cursorText = text;
        cursorPlace = 0;
        passed = -1;
        return texts.get(text).size();
    }

    int forth() {
        state(hasCursor);
        if (cursorPlace == texts.get(cursorText).size()) {
            return -9;
        }
        passed = cursorPlace++;
        return numbers.get(texts.get(cursorText).get(passed));
    }

    int back() {
        state(hasCursor);
        if (cursorPlace == 0) {
            return -9;
        }
        passed = --cursorPlace;
        return numbers.get(texts.get(cursorText).get(passed));
    }

    int mend(int word) {
        argument(word >= 0 && word <= 25);
        state(hasCursor);
        if (passed < 0) {
            return -9;
        }
        int was = numbers.get(texts.get(cursorText).set(passed, word(word)));
        number(texts.get(cursorText));
        return was;
    }

    int slip(int word) {
        argument(word >= 0 && word <= 25);
        state(hasCursor && texts.get(cursorText).size() < 30);
        texts.get(cursorText).add(cursorPlace, word(word));
        number(texts.get(cursorText));
        passed = -1;
        return cursorPlace++;
    }

    int strike() {
        state(hasCursor);
        if (passed < 0) {
            return -9;
        }
        texts.get(cursorText).remove(passed);
        cursorPlace = passed;
        passed = -1;
        return texts.get(cursorText).size();
    }

    int cursor(int what) {
        argument(what >= 0 && what <= 2);
        return !hasCursor ? -1 : what == 0 ? cursorText : what == 1 ? cursorPlace : passed >= 0 ? 1 : 0;
    }

    // ---- scripts

    String script(int first, int second, boolean isLoose) {
        index(isText(first) && isText(second));
        return tell(steps(texts.get(first), texts.get(second), isLoose));
    }

    int ofScript(int first, int second, boolean isLoose, int what) {
        index(isText(first) && isText(second));
        argument(what >= 0 && what <= 4);
        List<String> one = texts.get(first);
        List<String> two = texts.get(second);
        String told = tell(steps(one, two, isLoose));
        int stays = (int) told.chars().filter(c -> c == '=').count();
        switch (what) {
            case 0: return stays;
            case 1: return (int) told.chars().filter(c -> c == '-').count();
            case 2: return (int) told.chars().filter(c -> c == '+').count();
            case 3: return distance(one, two, isLoose);
            default: return told.isEmpty() ? 1000 : 2000 * stays / (one.size() + two.size());
        }
    }

    String within(int first, int place, int second, int other) {
        index(isLine(first, place) && isLine(second, other));
        return tell(steps(letters(texts.get(first).get(place)), letters(texts.get(second).get(other)), false));
    }

    int moves(int first, int second) {
        index(isText(first) && isText(second));
        return findMoves(texts.get(first), texts.get(second)).size();
    }

    int ofMove(int first, int second, int move, int what) {
        index(isText(first) && isText(second));
        List<int[]> found = findMoves(texts.get(first), texts.get(second));
        index(move >= 0 && move < found.size());
        argument(what >= 0 && what <= 2);
        return found.get(move)[what];
    }

    // ---- patches

    int patch(int first, int second, int context) {
        index(isText(first) && isText(second));
        argument(context >= 0 && context <= 3);
        patch = hunks(texts.get(first), texts.get(second), context);
        return patch.size();
    }

    int turn() {
        patch = turned(patch);
        int puts = 0;
        for (Hunk h : patch) {
            for (String m : h.marked) {
                puts += m.startsWith("+") ? 1 : 0;
            }
        }
        return puts;
    }

    int write(int text) {
        index(isText(text));
        List<String> made = new ArrayList<>();
        for (Hunk h : patch) {
            made.add("@" + h.from + "," + h.old().size() + "," + h.to + "," + h.young().size());
            made.addAll(h.marked);
        }
        state(made.size() <= 30);
        for (String line : made) {
            state(line.length() <= 16);
        }
        become(text, made);
        return made.size();
    }

    int read(int text) {
        int fault = fault(text);
        if (fault == -1) {
            patch = new ArrayList<>();
            List<String> rows = texts.get(text);
            int at = 0;
            while (at < rows.size()) {
                int[] head = head(rows.get(at++));
                Hunk h = new Hunk();
                h.from = head[0];
                h.to = head[2];
                while (h.old().size() < head[1] || h.young().size() < head[3]) {
                    h.marked.add(rows.get(at++));
                }
                patch.add(h);
            }
        }
        return fault;
    }

    int fault(int text) {
        index(isText(text));
        List<String> rows = texts.get(text);
        int at = 0;
        int behindOld = 0;
        int behindNew = 0;
        while (at < rows.size()) {
            int[] head = head(rows.get(at));
            if (head == null || head[1] == 0 && head[3] == 0 || head[0] < behindOld
                    || head[0] - behindOld != head[2] - behindNew) {
                return at;
            }
            at++;
            int olds = head[1];
            int news = head[3];
            while (olds > 0 || news > 0) {
                if (at == rows.size()) {
                    return at;
                }
                String row = rows.get(at);
                if (row.startsWith(" ") && olds > 0 && news > 0) {
                    olds--;
                    news--;
                } else if (row.startsWith("-") && olds > 0) {
                    olds--;
                } else if (row.startsWith("+") && news > 0) {
                    news--;
                } else {
                    return at;
                }
                at++;
            }
            behindOld = head[0] + head[1];
            behindNew = head[2] + head[3];
        }
        return -1;
    }

    int lay(int text, int give) {
        index(isText(text));
        argument(give >= 0 && give <= 9);
        List<Hunk> no = new ArrayList<>();
        List<String> laid = laid(patch, texts.get(text), give, no);
        state(laid.size() <= 30);
        refused = no;
        become(text, laid);
        return patch.size() - no.size();
    }

    int again() {
        patch = refused;
        refused = new ArrayList<>();
        return patch.size();
    }

    int ofHunk(int hunk, int what) {
        index(hunk >= 0 && hunk < patch.size());
        argument(what >= 0 && what <= 4);
        Hunk h = patch.get(hunk);
        return new int[] {h.from, h.old().size(), h.to, h.young().size(), h.marked.size()}[what];
    }

    String hunk(int hunk) {
        index(hunk >= 0 && hunk < patch.size());
        return String.join("|", patch.get(hunk).marked);
    }

    // ---- joins

    int join(int text, int common, int one, int two, int choice) {
        index(isText(text) && isText(common) && isText(one) && isText(two));
        argument(choice >= 0 && choice <= 3);
        List<int[]> found = new ArrayList<>();
        List<String> made = joined(texts.get(common), texts.get(one), texts.get(two), choice, found);
        state(made.size() <= 30);
        quarrels = found;
        become(text, made);
        return found.size();
    }

    int wouldJoin(int common, int one, int two) {
        index(isText(common) && isText(one) && isText(two));
        List<int[]> found = new ArrayList<>();
        joined(texts.get(common), texts.get(one), texts.get(two), 0, found);
        return found.size();
    }

    int quarrel(int quarrel, int what) {
        index(quarrel >= 0 && quarrel < quarrels.size());
        argument(what >= 0 && what <= 4);
        return quarrels.get(quarrel)[what];
    }

    // ---- versions, and all

    int keep(int text) {
        index(isText(text));
        state(versions.size() < 8);
        versions.add(new ArrayList<>(texts.get(text)));
        return versions.size() - 1;
    }

    int asOf(int text, int version) {
        index(isText(text) && isVersion(version));
        become(text, versions.get(version));
        return texts.get(text).size();
    }

    int blame(int version, int place, boolean isLife) {
        index(isVersion(version) && place >= 0 && place < versions.get(version).size());
        return isLife ? lived(version, place) : blamed(version, place);
    }

    int ofVersion(int version, int what) {
        index(isVersion(version));
        argument(what >= 0 && what <= 3);
        List<String> now = versions.get(version);
        String told = version == 0 ? "" : tell(steps(versions.get(version - 1), now, false));
        switch (what) {
            case 0: return now.size();
            case 1: return version == 0 ? now.size() : (int) told.chars().filter(c -> c == '+').count();
            case 2: return version == 0 ? 0 : (int) told.chars().filter(c -> c == '-').count();
            default:
                int first = 0;
                for (int k = 0; k < now.size(); k++) {
                    first += blamed(version, k) == 0 ? 1 : 0;
                }
                return first;
        }
    }

    int knock() {
        return ++knocks;
    }

    int house(int what) {
        argument(what >= 0 && what <= 9);
        switch (what) {
            case 4: return numbers.size();
            case 5: return patch.size();
            case 6: return refused.size();
            case 7: return quarrels.size();
            case 8: return versions.size();
            case 9: return knocks;
            default: return texts.get(what).size();
        }
    }

    boolean isSound() {
        boolean sound = true;
        for (List<String> one : texts) {
            for (List<String> two : texts) {
                for (int loose = 0; loose < 2; loose++) {
                    String told = tell(steps(one, two, loose == 1));
                    long changes = told.chars().filter(c -> c != '=').count();
                    sound &= changes == distance(one, two, loose == 1);
                }
                List<Hunk> no = new ArrayList<>();
                List<Hunk> between = hunks(one, two, 1);
                List<String> there = laid(between, one, 0, no);
                sound &= there.equals(two) && no.isEmpty();
                sound &= laid(turned(between), there, 0, no).equals(one) && no.isEmpty();
            }
        }
        List<int[]> found = new ArrayList<>();
        List<String> made = joined(texts.get(0), texts.get(1), texts.get(2), 0, found);
        if (found.isEmpty()) {
            sound &= made.equals(joined(texts.get(0), texts.get(2), texts.get(1), 0, found)) && found.isEmpty();
        }
        sound &= texts.get(1).equals(joined(texts.get(0), texts.get(1), texts.get(0), 0, new ArrayList<>()));
        for (int v = 0; v < versions.size(); v++) {
            for (int k = 0; k < versions.get(v).size(); k++) {
                int b = blamed(v, k);
                int l = lived(v, k);
                sound &= b <= v && l >= v;
                for (int w = b; w <= l; w++) {
                    sound &= versions.get(w).contains(versions.get(v).get(k));
                }
            }
        }
        return sound;
    }

    long digest() {
        List<Long> told = new ArrayList<>();
        for (int what = 0; what <= 9; what++) {
            told.add((long) house(what));
        }
        for (int what = 0; what <= 2; what++) {
            told.add((long) cursor(what));
        }
        told.add((long) draft().length());
        for (int t = 0; t < 4; t++) {
            for (int k = 0; k < texts.get(t).size(); k++) {
                told.add((long) ofLine(t, k, 0));
                told.add((long) ofLine(t, k, 1));
            }
        }
        for (int t = 0; t < 4; t++) {
            for (int u = 0; u < 4; u++) {
                told.add((long) ofScript(t, u, false, 0));
                told.add((long) ofScript(t, u, false, 3));
                told.add((long) ofScript(t, u, true, 0));
                told.add((long) moves(t, u));
            }
        }
        for (int t = 0; t < 4; t++) {
            told.add((long) fault(t));
        }
        for (int h = 0; h < patch.size(); h++) {
            for (int what = 0; what <= 4; what++) {
                told.add((long) ofHunk(h, what));
            }
            told.add((long) hunk(h).length());
        }
        told.add((long) wouldJoin(0, 1, 2));
        for (int q = 0; q < quarrels.size(); q++) {
            for (int what = 0; what <= 4; what++) {
                told.add((long) quarrel(q, what));
            }
        }
        for (int v = 0; v < versions.size(); v++) {
            for (int what = 0; what <= 3; what++) {
                told.add((long) ofVersion(v, what));
            }
            for (int k = 0; k < versions.get(v).size(); k++) {
                told.add((long) blame(v, k, false));
                told.add((long) blame(v, k, true));
            }
        }
        told.add(isSound() ? 1L : 0L);
        long d = 5400;
        for (long v : told) {
            d = d * 31 + v;
        }
        return d;
    }

    /** Everything that can be seen of the model, cheaper than digest(). */
    String state() {
        StringBuilder all = new StringBuilder();
        all.append(draft).append(texts).append(numbers.size()).append(hasCursor).append(cursorText)
                .append(cursorPlace).append(passed).append(versions).append(knocks).append(quarrels.size());
        for (Hunk h : patch) {
            all.append(h.from).append(' ').append(h.to).append(h.marked);
        }
        return all.toString();
    }

    // ---- what the words of the document mean

    private static List<Step> steps(List<String> one, List<String> two, boolean isLoose) {
        int[][] longest = longest(one, two, isLoose);
        List<Step> steps = new ArrayList<>();
        int i = 0;
        int j = 0;
        while (i < one.size() || j < two.size()) {
            boolean first = i < one.size();
            boolean second = j < two.size();
            if (first && second && alike(one.get(i), two.get(j), isLoose)) {
                steps.add(new Step('=', one.get(i), i++, j++));
            } else if (first && (!second || longest[i + 1][j] >= longest[i][j + 1])) {
                steps.add(new Step('-', one.get(i), i++, j));
            } else {
                steps.add(new Step('+', two.get(j), i, j++));
            }
        }
        return steps;
    }

    /** By the definition, so that nothing is taken for granted of equal LINES at both heads. */
    private static int[][] longest(List<String> one, List<String> two, boolean isLoose) {
        int[][] longest = new int[one.size() + 1][two.size() + 1];
        for (int i = one.size() - 1; i >= 0; i--) {
            for (int j = two.size() - 1; j >= 0; j--) {
                longest[i][j] = Math.max(longest[i + 1][j], longest[i][j + 1]);
                if (alike(one.get(i), two.get(j), isLoose)) {
                    longest[i][j] = Math.max(longest[i][j], 1 + longest[i + 1][j + 1]);
                }
            }
        }
        return longest;
    }

    /** The least number of LINES out and in, counted itself and not told from what STAYS. */
    private static int distance(List<String> one, List<String> two, boolean isLoose) {
        int[][] least = new int[one.size() + 1][two.size() + 1];
        for (int i = 0; i <= one.size(); i++) {
            for (int j = 0; j <= two.size(); j++) {
                if (i == 0 || j == 0) {
                    least[i][j] = i + j;
                } else {
                    least[i][j] = 1 + Math.min(least[i - 1][j], least[i][j - 1]);
                    if (alike(one.get(i - 1), two.get(j - 1), isLoose)) {
                        least[i][j] = Math.min(least[i][j], least[i - 1][j - 1]);
                    }
                }
            }
        }
        return least[one.size()][two.size()];
    }

    private static boolean alike(String a, String b, boolean isLoose) {
        return isLoose ? a.replace(" ", "").equals(b.replace(" ", "")) : a.equals(b);
    }

    private static String tell(List<Step> steps) {
        StringBuilder told = new StringBuilder();
        for (Step s : steps) {
            told.append(s.kind);
        }
        return told.toString();
    }

    private static List<String> letters(String line) {
        List<String> letters = new ArrayList<>();
        for (char c : line.toCharArray()) {
            letters.add(String.valueOf(c));
        }
        return letters;
    }

    private static List<int[]> findMoves(List<String> one, List<String> two) {
        boolean[] out = new boolean[one.size()];
        boolean[] in = new boolean[two.size()];
        for (Step s : steps(one, two, false)) {
            if (s.kind == '-') {
                out[s.i] = true;
            } else if (s.kind == '+') {
                in[s.j] = true;
            }
        }
        List<int[]> found = new ArrayList<>();
        boolean goesOn = true;
        while (goesOn) {
            goesOn = false;
            search:
            for (int k = Math.min(one.size(), two.size()); k >= 1; k--) {
                for (int i = 0; i + k <= one.size(); i++) {
                    for (int j = 0; j + k <= two.size(); j++) {
                        boolean isBlock = true;
                        for (int n = 0; n < k && isBlock; n++) {
                            isBlock = out[i + n] && in[j + n] && one.get(i + n).equals(two.get(j + n));
                        }
                        if (isBlock) {
                            found.add(new int[] {i, j, k});
                            for (int n = 0; n < k; n++) {
                                out[i + n] = false;
                                in[j + n] = false;
                            }
                            goesOn = true;
                            break search;
                        }
                    }
                }
            }
        }
        return found;
    }

    private static List<Hunk> hunks(List<String> one, List<String> two, int context) {
        List<Step> steps = steps(one, two, false);
        boolean[] isIn = new boolean[steps.size()];
        for (int s = 0; s < steps.size(); s++) {
            if (steps.get(s).kind != '=') {
                for (int n = s - context; n <= s + context; n++) {
                    if (n >= 0 && n < steps.size()) {
                        isIn[n] = true;
                    }
                }
            }
        }
        List<Hunk> hunks = new ArrayList<>();
        for (int s = 0; s < steps.size(); s++) {
            Step step = steps.get(s);
            if (isIn[s]) {
                if (s == 0 || !isIn[s - 1]) {
                    Hunk h = new Hunk();
                    h.from = step.i;
                    h.to = step.j;
                    hunks.add(h);
                }
                String mark = step.kind == '=' ? " " : String.valueOf(step.kind);
                hunks.get(hunks.size() - 1).marked.add(mark + step.line);
            }
        }
        return hunks;
    }

    private static List<Hunk> turned(List<Hunk> hunks) {
        List<Hunk> turned = new ArrayList<>();
        for (Hunk h : hunks) {
            Hunk t = new Hunk();
            t.from = h.to;
            t.to = h.from;
            for (String m : h.marked) {
                String mark = m.startsWith("+") ? "-" : m.startsWith("-") ? "+" : " ";
                t.marked.add(mark + m.substring(1));
            }
            turned.add(t);
        }
        return turned;
    }

    private static int[] head(String line) {
        String number = "(0|[1-9][0-9]*)";
        Matcher m = Pattern.compile("@" + number + "," + number + "," + number + "," + number).matcher(line);
        if (!m.matches()) {
            return null;
        }
        int[] head = new int[4];
        for (int k = 0; k < 4; k++) {
            long value = Long.parseLong(m.group(k + 1));
            if (value > 30) {
                return null;
            }
            head[k] = (int) value;
        }
        return head;
    }

    private static List<String> laid(List<Hunk> hunks, List<String> text, int give, List<Hunk> no) {
        List<String> work = new ArrayList<>(text);
        int shift = 0;
        int low = 0;
        for (Hunk h : hunks) {
            List<Integer> tried = new ArrayList<>();
            tried.add(h.from + shift);
            for (int g = 1; g <= give; g++) {
                tried.add(h.from + shift - g);
                tried.add(h.from + shift + g);
            }
            boolean fits = false;
            for (int p : tried) {
                int end = p + h.old().size();
                if (p >= low && p <= work.size() && end <= work.size() && work.subList(p, end).equals(h.old())) {
                    work.subList(p, end).clear();
                    work.addAll(p, h.young());
                    shift = p - h.from + h.young().size() - h.old().size();
                    low = p + h.young().size();
                    fits = true;
                    break;
                }
            }
            if (!fits) {
                no.add(h.copy());
            }
        }
        return work;
    }

    private static List<String> joined(List<String> common, List<String> one, List<String> two, int choice,
            List<int[]> quarrels) {
        int[] inOne = stays(common, one);
        int[] inTwo = stays(common, two);
        List<String> made = new ArrayList<>();
        int c = 0;
        int a = 0;
        int b = 0;
        for (int k = 0; k <= common.size(); k++) {
            boolean isLast = k == common.size();
            if (!isLast && (inOne[k] < 0 || inTwo[k] < 0)) {
                continue;
            }
            int endOne = isLast ? one.size() : inOne[k];
            int endTwo = isLast ? two.size() : inTwo[k];
            List<String> rowCommon = common.subList(c, k);
            List<String> rowOne = one.subList(a, endOne);
            List<String> rowTwo = two.subList(b, endTwo);
            if (rowOne.equals(rowCommon)) {
                made.addAll(rowTwo);
            } else if (rowTwo.equals(rowCommon) || rowTwo.equals(rowOne)) {
                made.addAll(rowOne);
            } else {
                List<String> choosen = new ArrayList<>(choice == 1 ? rowTwo : choice == 2 ? rowCommon : rowOne);
                if (choice == 3) {
                    choosen.addAll(rowTwo);
                }
                quarrels.add(new int[] {made.size(), rowCommon.size(), rowOne.size(), rowTwo.size(),
                    choosen.size()});
                made.addAll(choosen);
            }
            if (!isLast) {
                made.add(common.get(k));
                c = k + 1;
                a = endOne + 1;
                b = endTwo + 1;
            }
        }
        return made;
    }

    private static int[] stays(List<String> one, List<String> two) {
        int[] stays = new int[one.size()];
        java.util.Arrays.fill(stays, -1);
        for (Step s : steps(one, two, false)) {
            if (s.kind == '=') {
                stays[s.i] = s.j;
            }
        }
        return stays;
    }

    private int blamed(int version, int place) {
        if (version == 0) {
            return 0;
        }
        for (Step s : steps(versions.get(version - 1), versions.get(version), false)) {
            if (s.kind == '=' && s.j == place) {
                return blamed(version - 1, s.i);
            }
        }
        return version;
    }

    private int lived(int version, int place) {
        if (version == versions.size() - 1) {
            return version;
        }
        for (Step s : steps(versions.get(version), versions.get(version + 1), false)) {
            if (s.kind == '=' && s.i == place) {
                return lived(version + 1, s.j);
            }
        }
        return version;
    }

    // ---- parts of the calls

    private static String word(int word) {
        return String.valueOf((char) ('a' + word));
    }

    private boolean isText(int text) {
        return text >= 0 && text <= 3;
    }

    private boolean isLine(int text, int place) {
        return isText(text) && place >= 0 && place < texts.get(text).size();
    }

    private boolean isVersion(int version) {
        return version >= 0 && version < versions.size();
    }

    private void become(int text, List<String> rows) {
        texts.set(text, new ArrayList<>(rows));
        changed(text);
    }

    private void changed(int text) {
        number(texts.get(text));
        if (hasCursor && cursorText == text) {
            hasCursor = false;
            passed = -1;
        }
    }

    private void number(List<String> rows) {
        for (String row : rows) {
            if (!numbers.containsKey(row)) {
                numbers.put(row, numbers.size());
            }
        }
    }

    List<List<String>> seen() {
        return Collections.unmodifiableList(texts);
    }

    private static void index(boolean holds) {
        if (!holds) {
            throw new IndexOutOfBoundsException();
        }
    }

    private static void argument(boolean holds) {
        if (!holds) {
            throw new IllegalArgumentException();
        }
    }

    private static void state(boolean holds) {
        if (!holds) {
            throw new IllegalStateException();
        }
    }
}
