import java.util.ArrayList;
import java.util.Arrays;

/**
 * A desk on which one sees what became of a text: four texts, a cursor, scripts, patches, joins and versions.
 *
 * <p>A LINE is held as a small number, its id, that the Lines give out: equal LINES have one id. An id is not the
 * NUMBER of the document, which a LINE has only from the time on at which it comes into a TEXT.
 *
 * <p>What a call needs for a while is made once, by the constructor, and used again by every call.
 */
public final class Lineseam {
    private static final int NONE = -1;
    private static final int CANNOT = -9;

    private static final int TEXTS = 4;
    private static final int MOST_LINES = 30;
    private static final int MOST_SIGNS = 16;
    private static final int MOST_DRAFTED = 12;
    private static final int MOST_VERSIONS = 8;
    private static final int MOST_CONTEXT = 3;
    private static final int MOST_GIVE = 9;
    private static final int CHOICES = 4;
    private static final int WORDS = 26;
    private static final int HOUSE_NUMBERS = 10;
    private static final int CURSOR_NUMBERS = 3;
    private static final int HUNK_NUMBERS = 5;
    private static final int QUARREL_NUMBERS = 5;
    private static final int MOVE_NUMBERS = 3;
    private static final int VERSION_NUMBERS = 4;
    private static final int DIGEST_START = 5400;

    private static final int STAY = 0;
    private static final int OUT = 1;
    private static final int IN = 2;

    private static final char BLANK = ' ';
    private static final String SIGNS = "abcdefgh 0123456789@,+-";
    private static final String STEPS = "=-+";
    private static final String MARKS = " -+";

    private final Lines lines = new Lines();
    private final Row[] texts = new Row[TEXTS];
    private final Row draft = new Row(MOST_DRAFTED);
    private final Cursor cursor = new Cursor();
    private final Script script = new Script();
    private final Moves moves = new Moves();
    private final PatchText patchText = new PatchText();
    private final Patch patch = new Patch();
    private final Patch refused = new Patch();
    private final Patch trial = new Patch();
    private final Laying laying = new Laying();
    private final Joining joining = new Joining();
    private final Row quarrels = new Row(Joining.QUARREL_ROOM);
    private final ArrayList<Version> versions = new ArrayList<Version>();
    private final Row firstKeys = new Row(MOST_LINES);
    private final Row secondKeys = new Row(MOST_LINES);
    private final Row made = new Row(Joining.ROOM);
    private final StringBuilder told = new StringBuilder();
    private int knocks = 0;

    public Lineseam() {
        for (int text = 0; text < texts.length; text++) {
            texts[text] = new Row(MOST_LINES);
        }
    }

    // ---- lines and texts

    public int sign(int sign) throws IllegalArgumentException, IllegalStateException {
        if (sign < 0 || sign >= SIGNS.length()) {
            throw new IllegalArgumentException("no such sign");
        }
        if (draft.size() >= MOST_DRAFTED) {
            throw new IllegalStateException("the draft is full");
        }
        draft.push(letter(SIGNS, sign));
        return draft.size();
    }

    public int erase(int many) throws IllegalArgumentException {
        if (many < 0) {
            throw new IllegalArgumentException("below 0");
        }
        draft.shorten(draft.size() - Math.min(many, draft.size()));
        return draft.size();
    }

    public String draft() {
        told.setLength(0);
        for (int k = 0; k < draft.size(); k++) {
            told.append((char) draft.at(k));
        }
        return told.toString();
    }

    public int put(int text, int place) throws IndexOutOfBoundsException, IllegalStateException {
        Row row = textWithGap(text, place);
        refuseFull(row);
        int line = lines.idOf(draft);
        row.insert(place, line);
        settle(text);
        return lines.numberOf(line);
    }

    public int add(int text, int place, int word)
            throws IndexOutOfBoundsException, IllegalArgumentException, IllegalStateException {
        Row row = textWithGap(text, place);
        refuseNoWord(word);
        refuseFull(row);
        int line = lines.idOfWord(word);
        row.insert(place, line);
        settle(text);
        return lines.numberOf(line);
    }

    public int change(int text, int place) throws IndexOutOfBoundsException {
        Row row = textWithLine(text, place);
        int number = lines.numberOf(row.at(place));
        row.set(place, lines.idOf(draft));
        settle(text);
        return number;
    }

    public int cut(int text, int from, int to) throws IndexOutOfBoundsException {
        Row row = textWithRun(text, from, to);
        row.removeRun(from, to);
        settle(text);
        return row.size();
    }

    public int copy(int text, int other) throws IndexOutOfBoundsException {
        Row row = textOf(text);
        row.become(textOf(other));
        settle(text);
        return row.size();
    }

    public int carry(int text, int from, int to) throws IndexOutOfBoundsException {
        Row row = textWithRun(text, from, to);
        made.clear();
        made.append(row, from, to);
        row.removeRun(from, to);
        row.append(made, 0, made.size());
        settle(text);
        return made.size();
    }

    public String line(int text, int place) throws IndexOutOfBoundsException {
        Row row = textWithLine(text, place);
        told.setLength(0);
        tellLine(row.at(place));
        return told.toString();
    }

    public int ofLine(int text, int place, int what) throws IndexOutOfBoundsException, IllegalArgumentException {
        Row row = textWithLine(text, place);
        int line = row.at(place);
        switch (what) {
            case 0:
                return lines.numberOf(line);
            case 1:
                return row.firstOf(line);
            case 2:
                return row.lastOf(line);
            case 3:
                return lines.lengthOf(line);
            default:
                throw new IllegalArgumentException("what is not 0 to 3");
        }
    }

    public String whole(int text) throws IndexOutOfBoundsException {
        Row row = textOf(text);
        told.setLength(0);
        for (int place = 0; place < row.size(); place++) {
            if (place > 0) {
                told.append('|');
            }
            tellLine(row.at(place));
        }
        return told.toString();
    }

    // ---- the cursor

    public int walk(int text) throws IndexOutOfBoundsException {
        Row row = textOf(text);
        cursor.enter(text);
        return row.size();
    }

    public int forth() throws IllegalStateException {
        Row row = textOfCursor();
        if (cursor.ahead >= row.size()) {
            return CANNOT;
        }
        cursor.passed = cursor.ahead;
        cursor.ahead++;
        return lines.numberOf(row.at(cursor.passed));
    }

    public int back() throws IllegalStateException {
        Row row = textOfCursor();
        if (cursor.ahead <= 0) {
            return CANNOT;
        }
        cursor.ahead--;
        cursor.passed = cursor.ahead;
        return lines.numberOf(row.at(cursor.passed));
    }

    public int mend(int word) throws IllegalArgumentException, IllegalStateException {
        refuseNoWord(word);
        Row row = textOfCursor();
        if (cursor.passed == NONE) {
            return CANNOT;
        }
        int number = lines.numberOf(row.at(cursor.passed));
        row.set(cursor.passed, lines.idOfWord(word));
        giveNumbers(row);
        return number;
    }

    public int slip(int word) throws IllegalArgumentException, IllegalStateException {
        refuseNoWord(word);
        Row row = textOfCursor();
        refuseFull(row);
        int place = cursor.ahead;
        row.insert(place, lines.idOfWord(word));
        giveNumbers(row);
        cursor.ahead = place + 1;
        cursor.passed = NONE;
        return place;
    }

    public int strike() throws IllegalStateException {
        Row row = textOfCursor();
        if (cursor.passed == NONE) {
            return CANNOT;
        }
        row.removeRun(cursor.passed, cursor.passed + 1);
        if (cursor.passed < cursor.ahead) {
            cursor.ahead--;
        }
        cursor.passed = NONE;
        return row.size();
    }

    public int cursor(int what) throws IllegalArgumentException {
        if (what < 0 || what >= CURSOR_NUMBERS) {
            throw new IllegalArgumentException("what is not 0 to 2");
        }
        if (cursor.text == NONE || what == 0) {
            return cursor.text;
        }
        if (what == 1) {
            return cursor.ahead;
        }
        return cursor.passed == NONE ? 0 : 1;
    }

    // ---- scripts

    public String script(int first, int second, boolean isLoose) throws IndexOutOfBoundsException {
        compare(textOf(first), textOf(second), isLoose);
        return toldScript();
    }

    public int ofScript(int first, int second, boolean isLoose, int what)
            throws IndexOutOfBoundsException, IllegalArgumentException {
        Row one = textOf(first);
        Row two = textOf(second);
        if (what < 0 || what > 4) {
            throw new IllegalArgumentException("what is not 0 to 4");
        }
        compare(one, two, isLoose);
        switch (what) {
            case 0:
                return script.steps.count(STAY);
            case 1:
                return script.steps.count(OUT);
            case 2:
                return script.steps.count(IN);
            case 3:
                return script.leastChanges();
            default:
                return likeness(script.steps.count(STAY), one.size() + two.size());
        }
    }

    public String within(int first, int place, int second, int other) throws IndexOutOfBoundsException {
        Row one = textWithLine(first, place);
        Row two = textWithLine(second, other);
        lines.spell(one.at(place), firstKeys);
        lines.spell(two.at(other), secondKeys);
        script.compare(firstKeys, secondKeys);
        return toldScript();
    }

    public int moves(int first, int second) throws IndexOutOfBoundsException {
        findMoves(textOf(first), textOf(second));
        return moves.count();
    }

    public int ofMove(int first, int second, int move, int what)
            throws IndexOutOfBoundsException, IllegalArgumentException {
        findMoves(textOf(first), textOf(second));
        if (move < 0 || move >= moves.count()) {
            throw new IndexOutOfBoundsException("no such move");
        }
        if (what < 0 || what >= MOVE_NUMBERS) {
            throw new IllegalArgumentException("what is not 0 to 2");
        }
        return moves.found.at(move * MOVE_NUMBERS + what);
    }

    // ---- patches

    public int patch(int first, int second, int context) throws IndexOutOfBoundsException, IllegalArgumentException {
        Row one = textOf(first);
        Row two = textOf(second);
        if (context < 0 || context > MOST_CONTEXT) {
            throw new IllegalArgumentException("context is not 0 to 3");
        }
        script.compare(one, two);
        patch.take(script, one, two, context);
        return patch.hunks();
    }

    public int turn() {
        patch.turnOver();
        return patch.kinds.count(IN);
    }

    public int write(int text) throws IndexOutOfBoundsException, IllegalStateException {
        Row row = textOf(text);
        if (!patchText.hasRoom(patch, lines)) {
            throw new IllegalStateException("the patch is too large for a text");
        }
        patchText.compose(patch, lines, row);
        settle(text);
        return row.size();
    }

    public int read(int text) throws IndexOutOfBoundsException {
        Row row = textOf(text);
        int fault = patchText.faultOf(row, lines);
        if (fault == NONE) {
            patchText.parse(row, lines, patch);
        }
        return fault;
    }

    public int fault(int text) throws IndexOutOfBoundsException {
        return patchText.faultOf(textOf(text), lines);
    }

    public int lay(int text, int give)
            throws IndexOutOfBoundsException, IllegalArgumentException, IllegalStateException {
        Row row = textOf(text);
        if (give < 0 || give > MOST_GIVE) {
            throw new IllegalArgumentException("give is not 0 to 9");
        }
        laying.run(patch, row, give);
        if (laying.work.size() > MOST_LINES) {
            throw new IllegalStateException("the text would have more than 30 lines");
        }
        row.become(laying.work);
        refused.become(laying.refused);
        settle(text);
        return patch.hunks() - refused.hunks();
    }

    public int again() {
        patch.become(refused);
        refused.clear();
        return patch.hunks();
    }

    public int ofHunk(int hunk, int what) throws IndexOutOfBoundsException, IllegalArgumentException {
        refuseNoHunk(hunk);
        switch (what) {
            case 0:
                return patch.froms.at(hunk);
            case 1:
                return patch.olds.at(hunk);
            case 2:
                return patch.tos.at(hunk);
            case 3:
                return patch.news.at(hunk);
            case 4:
                return patch.end(hunk) - patch.start(hunk);
            default:
                throw new IllegalArgumentException("what is not 0 to 4");
        }
    }

    public String hunk(int hunk) throws IndexOutOfBoundsException {
        refuseNoHunk(hunk);
        told.setLength(0);
        for (int step = patch.start(hunk); step < patch.end(hunk); step++) {
            if (step > patch.start(hunk)) {
                told.append('|');
            }
            told.append(letter(MARKS, patch.kinds.at(step)));
            tellLine(patch.marked.at(step));
        }
        return told.toString();
    }

    // ---- joins

    public int join(int text, int common, int one, int two, int choice)
            throws IndexOutOfBoundsException, IllegalArgumentException, IllegalStateException {
        Row row = textOf(text);
        Row ground = textOf(common);
        Row left = textOf(one);
        Row right = textOf(two);
        if (choice < 0 || choice >= CHOICES) {
            throw new IllegalArgumentException("choice is not 0 to 3");
        }
        joining.run(ground, left, right, choice);
        if (joining.result.size() > MOST_LINES) {
            throw new IllegalStateException("the join would have more than 30 lines");
        }
        row.become(joining.result);
        quarrels.become(joining.quarrels);
        settle(text);
        return joining.count();
    }

    public int wouldJoin(int common, int one, int two) throws IndexOutOfBoundsException {
        joining.run(textOf(common), textOf(one), textOf(two), 0);
        return joining.count();
    }

    public int quarrel(int quarrel, int what) throws IndexOutOfBoundsException, IllegalArgumentException {
        if (quarrel < 0 || quarrel >= quarrels.size() / QUARREL_NUMBERS) {
            throw new IndexOutOfBoundsException("no such quarrel");
        }
        if (what < 0 || what >= QUARREL_NUMBERS) {
            throw new IllegalArgumentException("what is not 0 to 4");
        }
        return quarrels.at(quarrel * QUARREL_NUMBERS + what);
    }

    // ---- versions, and all

    public int keep(int text) throws IndexOutOfBoundsException, IllegalStateException {
        Row row = textOf(text);
        int count = versions.size();
        if (count >= MOST_VERSIONS) {
            throw new IllegalStateException("there are 8 versions");
        }
        Version version = new Version();
        version.held.become(row);
        if (count > 0) {
            Version last = versions.get(count - 1);
            script.compare(last.held, version.held);
            last.followers.become(script.partners);
            version.origins.become(script.origins);
        }
        versions.add(version);
        return count;
    }

    public int asOf(int text, int version) throws IndexOutOfBoundsException {
        Row row = textOf(text);
        row.become(versionOf(version).held);
        settle(text);
        return row.size();
    }

    public int blame(int version, int place, boolean isLife) throws IndexOutOfBoundsException {
        if (place < 0 || place >= versionOf(version).held.size()) {
            throw new IndexOutOfBoundsException("no such line");
        }
        return isLife ? lifeOf(version, place) : blameOf(version, place);
    }

    public int ofVersion(int version, int what) throws IndexOutOfBoundsException, IllegalArgumentException {
        Version asked = versionOf(version);
        switch (what) {
            case 0:
                return asked.held.size();
            case 1:
                return asked.held.size() - countKept(asked.origins);
            case 2:
                return version == 0 ? 0 : goneTo(versionOf(version - 1));
            case 3:
                return countBlamedOnFirst(version);
            default:
                throw new IllegalArgumentException("what is not 0 to 3");
        }
    }

    public int knock() {
        knocks++;
        return knocks;
    }

    public int house(int what) throws IllegalArgumentException {
        if (what >= 0 && what < TEXTS) {
            return textOf(what).size();
        }
        switch (what) {
            case 4:
                return lines.numbered;
            case 5:
                return patch.hunks();
            case 6:
                return refused.hunks();
            case 7:
                return quarrels.size() / QUARREL_NUMBERS;
            case 8:
                return versions.size();
            case 9:
                return knocks;
            default:
                throw new IllegalArgumentException("what is not 0 to 9");
        }
    }

    public boolean isSound() {
        for (int first = 0; first < TEXTS; first++) {
            for (int second = 0; second < TEXTS; second++) {
                if (!isPairSound(textOf(first), textOf(second))) {
                    return false;
                }
            }
        }
        return areJoinsSound() && areVersionsSound() && areNumbersSound();
    }

    public long digest() {
        long d = DIGEST_START;
        for (int what = 0; what < HOUSE_NUMBERS; what++) {
            d = mix(d, house(what));
        }
        for (int what = 0; what < CURSOR_NUMBERS; what++) {
            d = mix(d, cursor(what));
        }
        d = mix(d, draft.size());
        d = mixPlaces(d);
        d = mixScripts(d);
        for (int text = 0; text < TEXTS; text++) {
            d = mix(d, fault(text));
        }
        d = mixHunks(d);
        d = mix(d, wouldJoin(0, 1, 2));
        for (int k = 0; k < quarrels.size(); k++) {
            d = mix(d, quarrels.at(k));
        }
        d = mixVersions(d);
        return mix(d, isSound() ? 1 : 0);
    }

    // ---- what the document refuses

    private Row textOf(int text) {
        if (text < 0 || text >= texts.length) {
            throw new IndexOutOfBoundsException("no such text");
        }
        return texts[text];
    }

    private Row textWithGap(int text, int place) {
        Row row = textOf(text);
        if (place < 0 || place > row.size()) {
            throw new IndexOutOfBoundsException("no such place");
        }
        return row;
    }

    private Row textWithLine(int text, int place) {
        Row row = textOf(text);
        if (place < 0 || place >= row.size()) {
            throw new IndexOutOfBoundsException("no such line");
        }
        return row;
    }

    private Row textWithRun(int text, int from, int to) {
        Row row = textOf(text);
        if (from < 0 || to > row.size() || from > to) {
            throw new IndexOutOfBoundsException("no such lines");
        }
        return row;
    }

    private Row textOfCursor() {
        if (cursor.text == NONE) {
            throw new IllegalStateException("there is no cursor");
        }
        return textOf(cursor.text);
    }

    private Version versionOf(int version) {
        if (version < 0 || version >= versions.size()) {
            throw new IndexOutOfBoundsException("no such version");
        }
        return versions.get(version);
    }

    private void refuseNoHunk(int hunk) {
        if (hunk < 0 || hunk >= patch.hunks()) {
            throw new IndexOutOfBoundsException("no such hunk");
        }
    }

    private static void refuseFull(Row row) {
        if (row.size() >= MOST_LINES) {
            throw new IllegalStateException("the text is full");
        }
    }

    private static void refuseNoWord(int word) {
        if (word < 0 || word >= WORDS) {
            throw new IllegalArgumentException("no such word");
        }
    }

    // ---- parts of the calls

    /** Every call that names a TEXT to be changed ends here, but those that the CURSOR does itself. */
    private void settle(int text) {
        giveNumbers(textOf(text));
        if (cursor.text == text) {
            cursor.leave();
        }
    }

    private void giveNumbers(Row row) {
        for (int place = 0; place < row.size(); place++) {
            lines.giveNumber(row.at(place));
        }
    }

    private void tellLine(int line) {
        int length = lines.lengthOf(line);
        for (int k = 0; k < length; k++) {
            told.append((char) lines.signAt(line, k));
        }
    }

    private String toldScript() {
        told.setLength(0);
        for (int k = 0; k < script.steps.size(); k++) {
            told.append(letter(STEPS, script.steps.at(k)));
        }
        return told.toString();
    }

    private static char letter(String letters, int index) {
        return index >= 0 && index < letters.length() ? letters.charAt(index) : BLANK;
    }

    private static int likeness(int stays, int both) {
        return both > 0 ? 2000 * stays / both : 1000;
    }

    private void compare(Row first, Row second, boolean isLoose) {
        if (isLoose) {
            lines.loosen(first, firstKeys);
            lines.loosen(second, secondKeys);
            script.compare(firstKeys, secondKeys);
        } else {
            script.compare(first, second);
        }
    }

    private void findMoves(Row first, Row second) {
        script.compare(first, second);
        moves.find(script, first, second);
    }

    private int blameOf(int version, int place) {
        int held = place;
        for (int v = version; v > 0; v--) {
            int origin = versionOf(v).origins.at(held);
            if (origin == NONE) {
                return v;
            }
            held = origin;
        }
        return 0;
    }

    private int lifeOf(int version, int place) {
        int held = place;
        int last = versions.size() - 1;
        for (int v = version; v < last; v++) {
            int follower = versionOf(v).followers.at(held);
            if (follower == NONE) {
                return v;
            }
            held = follower;
        }
        return last;
    }

    private static int countKept(Row partners) {
        return partners.size() - partners.count(NONE);
    }

    private static int goneTo(Version version) {
        return version.held.size() - countKept(version.followers);
    }

    private int countBlamedOnFirst(int version) {
        int count = 0;
        for (int place = 0; place < versionOf(version).held.size(); place++) {
            if (blameOf(version, place) == 0) {
                count++;
            }
        }
        return count;
    }

    // ---- isSound

    private boolean isPairSound(Row first, Row second) {
        compare(first, second, true);
        if (script.changes() != script.leastChanges()) {
            return false;
        }
        compare(first, second, false);
        if (script.changes() != script.leastChanges()) {
            return false;
        }
        trial.take(script, first, second, 1);
        laying.run(trial, first, 0);
        if (!laying.hasMade(second)) {
            return false;
        }
        trial.turnOver();
        laying.run(trial, second, 0);
        return laying.hasMade(first);
    }

    private boolean areJoinsSound() {
        Row common = textOf(0);
        joining.run(common, textOf(1), textOf(2), 0);
        if (joining.count() == 0) {
            made.become(joining.result);
            joining.run(common, textOf(2), textOf(1), 0);
            if (joining.count() != 0 || !joining.result.isSame(made)) {
                return false;
            }
        }
        joining.run(common, textOf(1), common, 0);
        return joining.result.isSame(textOf(1));
    }

    private boolean areVersionsSound() {
        for (int version = 0; version < versions.size(); version++) {
            Row held = versionOf(version).held;
            for (int place = 0; place < held.size(); place++) {
                int blame = blameOf(version, place);
                int life = lifeOf(version, place);
                if (blame > version || life < version || !standsIn(held.at(place), blame, life)) {
                    return false;
                }
            }
        }
        return true;
    }

    private boolean standsIn(int line, int from, int to) {
        for (int version = from; version <= to; version++) {
            if (versionOf(version).held.firstOf(line) == NONE) {
                return false;
            }
        }
        return true;
    }

    private boolean areNumbersSound() {
        for (int text = 0; text < TEXTS; text++) {
            Row row = textOf(text);
            for (int place = 0; place < row.size(); place++) {
                if (!lines.ownsNumber(row.at(place))) {
                    return false;
                }
            }
        }
        return true;
    }

    // ---- digest

    private static long mix(long d, long v) {
        return d * 31 + v;
    }

    private long mixPlaces(long start) {
        long d = start;
        for (int text = 0; text < TEXTS; text++) {
            Row row = textOf(text);
            for (int place = 0; place < row.size(); place++) {
                d = mix(d, lines.numberOf(row.at(place)));
                d = mix(d, row.firstOf(row.at(place)));
            }
        }
        return d;
    }

    private long mixScripts(long start) {
        long d = start;
        for (int first = 0; first < TEXTS; first++) {
            for (int second = 0; second < TEXTS; second++) {
                findMoves(textOf(first), textOf(second));
                d = mix(d, script.steps.count(STAY));
                d = mix(d, script.leastChanges());
                compare(textOf(first), textOf(second), true);
                d = mix(d, script.steps.count(STAY));
                d = mix(d, moves.count());
            }
        }
        return d;
    }

    private long mixHunks(long start) {
        long d = start;
        for (int hunk = 0; hunk < patch.hunks(); hunk++) {
            for (int what = 0; what < HUNK_NUMBERS; what++) {
                d = mix(d, ofHunk(hunk, what));
            }
            int length = patch.end(hunk) - patch.start(hunk) - 1;
            for (int step = patch.start(hunk); step < patch.end(hunk); step++) {
                length += 1 + lines.lengthOf(patch.marked.at(step));
            }
            d = mix(d, length);
        }
        return d;
    }

    private long mixVersions(long start) {
        long d = start;
        for (int version = 0; version < versions.size(); version++) {
            for (int what = 0; what < VERSION_NUMBERS; what++) {
                d = mix(d, ofVersion(version, what));
            }
            for (int place = 0; place < versionOf(version).held.size(); place++) {
                d = mix(d, blameOf(version, place));
                d = mix(d, lifeOf(version, place));
            }
        }
        return d;
    }

    /** A row of whole numbers with a room for so many: beyond its ends there is NONE, and nothing can be put. */
    private static final class Row {
        private final int[] items;
        private int size = 0;

        Row(int room) {
            items = new int[Math.max(room, 0)];
        }

        int size() {
            return size;
        }

        int at(int index) {
            return index >= 0 && index < size && index < items.length ? items[index] : NONE;
        }

        void set(int index, int item) {
            if (index >= 0 && index < size && index < items.length) {
                items[index] = item;
            }
        }

        void push(int item) {
            if (size >= 0 && size < items.length) {
                items[size] = item;
                size++;
            }
        }

        void insert(int index, int item) {
            if (index < 0 || index > size || size >= items.length) {
                return;
            }
            for (int k = size; k > index; k--) {
                items[k] = items[k - 1];
            }
            items[index] = item;
            size++;
        }

        void removeRun(int from, int to) {
            if (from < 0 || to > size || from > to || size > items.length) {
                return;
            }
            for (int k = to; k < size; k++) {
                items[k - to + from] = items[k];
            }
            size -= to - from;
        }

        void raiseLast() {
            if (size > 0 && size <= items.length) {
                items[size - 1]++;
            }
        }

        void shorten(int length) {
            if (length >= 0 && length < size) {
                size = length;
            }
        }

        void clear() {
            size = 0;
        }

        void append(Row other, int from, int to) {
            for (int k = from; k < to && k < other.size; k++) {
                if (k >= 0 && k < other.items.length && size >= 0 && size < items.length) {
                    items[size] = other.items[k];
                    size++;
                }
            }
        }

        void become(Row other) {
            if (other != this) {
                clear();
                append(other, 0, other.size);
            }
        }

        int firstOf(int item) {
            for (int k = 0; k < size; k++) {
                if (at(k) == item) {
                    return k;
                }
            }
            return NONE;
        }

        int lastOf(int item) {
            for (int k = size - 1; k >= 0; k--) {
                if (at(k) == item) {
                    return k;
                }
            }
            return NONE;
        }

        int count(int item) {
            int count = 0;
            for (int k = 0; k < size; k++) {
                if (at(k) == item) {
                    count++;
                }
            }
            return count;
        }

        boolean isSame(Row other) {
            if (size != other.size) {
                return false;
            }
            for (int k = 0; k < size; k++) {
                if (at(k) != other.at(k)) {
                    return false;
                }
            }
            return true;
        }
    }

    /**
     * All LINES that there ever were, each once. The signs of one, eight bits each, fill two longs from the lowest
     * bits on, so that two comparisons tell whether two LINES are equal.
     */
    private static final class Lines {
        /** As many as 512 calls can bring: at most 30 LINES a call, each with one that is like it without blanks. */
        private static final int LIMIT = 32768;
        private static final int SIGNS_A_LONG = 8;
        private static final int BITS = 8;
        private static final int MASK = 255;

        private long[] heads = new long[64];
        private long[] tails = new long[64];
        private int[] looses = new int[64];
        private int[] numbers = new int[64];
        private int[] owners = new int[64];
        private int size = 0;
        private int numbered = 0;
        private final Row letters = new Row(MOST_SIGNS);
        private final Row bare = new Row(MOST_SIGNS);

        int idOf(Row signs) {
            int id = findOrEnter(signs);
            if (has(id) && looses[id] == NONE) {
                int loose = id;
                if (signs.count(BLANK) > 0) {
                    bare.clear();
                    for (int k = 0; k < signs.size(); k++) {
                        if (signs.at(k) != BLANK) {
                            bare.push(signs.at(k));
                        }
                    }
                    loose = findOrEnter(bare);
                }
                // The arrays may be others by now: they grow as a LINE is entered.
                if (has(id)) {
                    looses[id] = loose;
                }
            }
            return id;
        }

        int idOfWord(int word) {
            letters.clear();
            letters.push('a' + word);
            return idOf(letters);
        }

        int idOfMarked(char mark, int id) {
            letters.clear();
            letters.push(mark);
            for (int k = 0; k < lengthOf(id); k++) {
                letters.push(signAt(id, k));
            }
            return idOf(letters);
        }

        int idOfUnmarked(int id) {
            letters.clear();
            for (int k = 1; k < lengthOf(id); k++) {
                letters.push(signAt(id, k));
            }
            return idOf(letters);
        }

        private int findOrEnter(Row signs) {
            long head = 0;
            long tail = 0;
            for (int k = signs.size() - 1; k >= 0; k--) {
                tail = (tail << BITS) | (head >>> (BITS * (SIGNS_A_LONG - 1)));
                head = (head << BITS) | (signs.at(k) & MASK);
            }
            for (int id = 0; id < size; id++) {
                if (id < heads.length && heads[id] == head && id < tails.length && tails[id] == tail) {
                    return id;
                }
            }
            return enter(head, tail);
        }

        private int enter(long head, long tail) {
            if (size == heads.length && size > 0 && size < LIMIT) {
                heads = Arrays.copyOf(heads, 2 * size);
                tails = Arrays.copyOf(tails, 2 * size);
                looses = Arrays.copyOf(looses, 2 * size);
                numbers = Arrays.copyOf(numbers, 2 * size);
                owners = Arrays.copyOf(owners, 2 * size);
            }
            if (size >= heads.length) {
                return NONE;
            }
            int id = size;
            size++;
            if (has(id)) {
                heads[id] = head;
                tails[id] = tail;
                looses[id] = NONE;
                numbers[id] = NONE;
            }
            return id;
        }

        private boolean has(int id) {
            return id >= 0 && id < size && id < heads.length && id < tails.length && id < looses.length
                    && id < numbers.length && id < owners.length;
        }

        /** The sign of a LINE, or 0 behind its end. */
        int signAt(int id, int place) {
            if (!has(id) || place < 0 || place >= MOST_SIGNS) {
                return 0;
            }
            if (place < SIGNS_A_LONG) {
                return (int) (heads[id] >>> (BITS * place)) & MASK;
            }
            return (int) (tails[id] >>> (BITS * (place - SIGNS_A_LONG))) & MASK;
        }

        int lengthOf(int id) {
            int length = 0;
            while (length < MOST_SIGNS && signAt(id, length) != 0) {
                length++;
            }
            return length;
        }

        void spell(int id, Row signs) {
            signs.clear();
            for (int k = 0; k < lengthOf(id); k++) {
                signs.push(signAt(id, k));
            }
        }

        /** For each LINE of a row the id of the one that it is without blanks. */
        void loosen(Row row, Row keys) {
            keys.clear();
            for (int k = 0; k < row.size(); k++) {
                int id = row.at(k);
                keys.push(has(id) ? looses[id] : NONE);
            }
        }

        int numberOf(int id) {
            return has(id) ? numbers[id] : NONE;
        }

        void giveNumber(int id) {
            if (has(id) && numbers[id] == NONE && has(numbered)) {
                numbers[id] = numbered;
                owners[numbered] = id;
                numbered++;
            }
        }

        boolean ownsNumber(int id) {
            int number = numberOf(id);
            return number >= 0 && number < numbered && number < owners.length && owners[number] == id;
        }
    }

    /** One CURSOR at most: without any its text is NONE. */
    private static final class Cursor {
        private int text = NONE;
        private int ahead = 0;
        private int passed = NONE;

        void enter(int into) {
            text = into;
            ahead = 0;
            passed = NONE;
        }

        void leave() {
            text = NONE;
            ahead = 0;
            passed = NONE;
        }
    }

    /** The SCRIPT of two rows, told by its steps, and for each item of a row where it stays in the other one. */
    private static final class Script {
        private static final int SPAN = MOST_LINES + 1;

        private final int[] longest = new int[SPAN * SPAN];
        private final Row steps = new Row(2 * MOST_LINES);
        private final Row partners = new Row(MOST_LINES);
        private final Row origins = new Row(MOST_LINES);
        private int firstSize = 0;
        private int secondSize = 0;

        void compare(Row first, Row second) {
            firstSize = Math.min(first.size(), MOST_LINES);
            secondSize = Math.min(second.size(), MOST_LINES);
            measure(first, second);
            steps.clear();
            partners.clear();
            origins.clear();
            int i = 0;
            int j = 0;
            for (int left = firstSize + secondSize; left > 0 && (i < firstSize || j < secondSize); left--) {
                if (i < firstSize && j < secondSize && first.at(i) == second.at(j)) {
                    steps.push(STAY);
                    partners.push(j);
                    origins.push(i);
                    i++;
                    j++;
                } else if (i < firstSize && (j >= secondSize || longestOf(i + 1, j) >= longestOf(i, j + 1))) {
                    steps.push(OUT);
                    partners.push(NONE);
                    i++;
                } else {
                    steps.push(IN);
                    origins.push(NONE);
                    j++;
                }
            }
        }

        private void measure(Row first, Row second) {
            Arrays.fill(longest, 0);
            for (int i = firstSize - 1; i >= 0; i--) {
                int item = first.at(i);
                for (int j = secondSize - 1; j >= 0; j--) {
                    int here = i * SPAN + j;
                    int below = here + SPAN;
                    if (here >= 0 && below + 1 < longest.length) {
                        longest[here] = item == second.at(j)
                                ? longest[below + 1] + 1
                                : Math.max(longest[below], longest[here + 1]);
                    }
                }
            }
        }

        private int longestOf(int i, int j) {
            int index = i * SPAN + j;
            return index >= 0 && index < longest.length ? longest[index] : 0;
        }

        int changes() {
            return steps.count(OUT) + steps.count(IN);
        }

        int leastChanges() {
            return firstSize + secondSize - 2 * longestOf(0, 0);
        }
    }

    /** The MOVES of two rows by their SCRIPT: three numbers each, as ofMove() tells them. */
    private static final class Moves {
        private final Row found = new Row(MOVE_NUMBERS * MOST_LINES);
        private final Row outs = new Row(MOST_LINES);
        private final Row ins = new Row(MOST_LINES);
        private int bestFirst = 0;
        private int bestSecond = 0;
        private int bestLength = 0;

        int count() {
            return found.size() / MOVE_NUMBERS;
        }

        void find(Script script, Row first, Row second) {
            found.clear();
            freeOnes(script.partners, first, outs);
            freeOnes(script.origins, second, ins);
            for (int round = 0; round < MOST_LINES; round++) {
                findBest();
                if (bestLength == 0) {
                    return;
                }
                found.push(bestFirst);
                found.push(bestSecond);
                found.push(bestLength);
                for (int k = 0; k < bestLength; k++) {
                    outs.set(bestFirst + k, NONE);
                    ins.set(bestSecond + k, NONE);
                }
            }
        }

        /** The LINES that may be in a BLOCK still, each at its place; NONE for all others. */
        private static void freeOnes(Row partners, Row row, Row free) {
            free.clear();
            for (int k = 0; k < row.size(); k++) {
                free.push(partners.at(k) == NONE ? row.at(k) : NONE);
            }
        }

        private void findBest() {
            bestLength = 0;
            for (int i = 0; i < outs.size(); i++) {
                for (int j = 0; outs.at(i) != NONE && j < ins.size(); j++) {
                    int length = blockAt(i, j);
                    if (length > bestLength) {
                        bestFirst = i;
                        bestSecond = j;
                        bestLength = length;
                    }
                }
            }
        }

        private int blockAt(int i, int j) {
            int length = 0;
            while (length < outs.size() && outs.at(i + length) != NONE
                    && outs.at(i + length) == ins.at(j + length)) {
                length++;
            }
            return length;
        }
    }

    /** A row of HUNKS. The MARKED LINES of all stand in one row; a HUNK has those from its start to the next one's. */
    private static final class Patch {
        private static final int ROOM = 2 * MOST_LINES;

        private final Row froms = new Row(ROOM);
        private final Row olds = new Row(ROOM);
        private final Row tos = new Row(ROOM);
        private final Row news = new Row(ROOM);
        private final Row starts = new Row(ROOM);
        private final Row kinds = new Row(ROOM);
        private final Row marked = new Row(ROOM);

        int hunks() {
            return froms.size();
        }

        int start(int hunk) {
            return starts.at(hunk);
        }

        int end(int hunk) {
            return hunk + 1 < starts.size() ? starts.at(hunk + 1) : kinds.size();
        }

        void clear() {
            froms.clear();
            olds.clear();
            tos.clear();
            news.clear();
            starts.clear();
            kinds.clear();
            marked.clear();
        }

        void open(int from, int to) {
            froms.push(from);
            olds.push(0);
            tos.push(to);
            news.push(0);
            starts.push(kinds.size());
        }

        void mark(int kind, int line) {
            kinds.push(kind);
            marked.push(line);
            if (kind != IN) {
                olds.raiseLast();
            }
            if (kind != OUT) {
                news.raiseLast();
            }
        }

        void become(Patch other) {
            froms.become(other.froms);
            olds.become(other.olds);
            tos.become(other.tos);
            news.become(other.news);
            starts.become(other.starts);
            kinds.become(other.kinds);
            marked.become(other.marked);
        }

        void takeHunk(Patch other, int hunk) {
            froms.push(other.froms.at(hunk));
            olds.push(other.olds.at(hunk));
            tos.push(other.tos.at(hunk));
            news.push(other.news.at(hunk));
            starts.push(kinds.size());
            kinds.append(other.kinds, other.start(hunk), other.end(hunk));
            marked.append(other.marked, other.start(hunk), other.end(hunk));
        }

        /** Becomes the HUNKS of two rows, whose SCRIPT is told. */
        void take(Script script, Row first, Row second, int context) {
            clear();
            boolean isInside = false;
            int i = 0;
            int j = 0;
            for (int step = 0; step < script.steps.size(); step++) {
                int kind = script.steps.at(step);
                boolean isNear = isNearChange(script.steps, step, context);
                if (isNear && !isInside) {
                    open(i, j);
                }
                if (isNear) {
                    mark(kind, kind == IN ? second.at(j) : first.at(i));
                }
                isInside = isNear;
                i += kind == IN ? 0 : 1;
                j += kind == OUT ? 0 : 1;
            }
        }

        private static boolean isNearChange(Row steps, int step, int context) {
            int last = Math.min(step + context, steps.size() - 1);
            for (int k = Math.max(step - context, 0); k <= last; k++) {
                if (steps.at(k) != STAY) {
                    return true;
                }
            }
            return false;
        }

        void turnOver() {
            exchange(froms, tos);
            exchange(olds, news);
            for (int step = 0; step < kinds.size(); step++) {
                int kind = kinds.at(step);
                if (kind != STAY) {
                    kinds.set(step, kind == OUT ? IN : OUT);
                }
            }
        }

        private static void exchange(Row one, Row other) {
            for (int hunk = 0; hunk < one.size(); hunk++) {
                int was = one.at(hunk);
                one.set(hunk, other.at(hunk));
                other.set(hunk, was);
            }
        }
    }

    /** What a PATCH TEXT looks like. */
    private static final class PatchText {
        private static final int NUMBERS = 4;
        private static final int FROM = 0;
        private static final int OLDS = 1;
        private static final int TO = 2;
        private static final int NEWS = 3;
        private static final int MOST = 30;

        private final Row head = new Row(NUMBERS);
        private final Row letters = new Row(MOST_SIGNS);

        boolean hasRoom(Patch patch, Lines lines) {
            if (patch.hunks() + patch.kinds.size() > MOST_LINES) {
                return false;
            }
            for (int step = 0; step < patch.kinds.size(); step++) {
                if (lines.lengthOf(patch.marked.at(step)) >= MOST_SIGNS) {
                    return false;
                }
            }
            return true;
        }

        void compose(Patch patch, Lines lines, Row text) {
            text.clear();
            for (int hunk = 0; hunk < patch.hunks(); hunk++) {
                letters.clear();
                letters.push('@');
                pushNumber(patch.froms.at(hunk));
                letters.push(',');
                pushNumber(patch.olds.at(hunk));
                letters.push(',');
                pushNumber(patch.tos.at(hunk));
                letters.push(',');
                pushNumber(patch.news.at(hunk));
                text.push(lines.idOf(letters));
                for (int step = patch.start(hunk); step < patch.end(hunk); step++) {
                    text.push(lines.idOfMarked(letter(MARKS, patch.kinds.at(step)), patch.marked.at(step)));
                }
            }
        }

        private void pushNumber(int number) {
            if (number >= 10) {
                letters.push('0' + number / 10);
            }
            letters.push('0' + number % 10);
        }

        int faultOf(Row text, Lines lines) {
            int oldEnd = 0;
            int newEnd = 0;
            int olds = 0;
            int news = 0;
            for (int place = 0; place < text.size(); place++) {
                int line = text.at(place);
                if (olds == 0 && news == 0) {
                    if (!isHead(line, lines) || !isHeadBehind(oldEnd, newEnd)) {
                        return place;
                    }
                    olds = head.at(OLDS);
                    news = head.at(NEWS);
                    oldEnd = head.at(FROM) + olds;
                    newEnd = head.at(TO) + news;
                } else {
                    int kind = MARKS.indexOf((char) lines.signAt(line, 0));
                    if (kind < 0 || (kind != IN && olds == 0) || (kind != OUT && news == 0)) {
                        return place;
                    }
                    olds -= kind == IN ? 0 : 1;
                    news -= kind == OUT ? 0 : 1;
                }
            }
            return olds == 0 && news == 0 ? NONE : text.size();
        }

        /** Takes a TEXT without FAULT as a PATCH: there no MARKED LINE has the looks of a HEAD. */
        void parse(Row text, Lines lines, Patch patch) {
            patch.clear();
            for (int place = 0; place < text.size(); place++) {
                int line = text.at(place);
                if (isHead(line, lines)) {
                    patch.open(head.at(FROM), head.at(TO));
                } else {
                    int kind = MARKS.indexOf((char) lines.signAt(line, 0));
                    patch.mark(kind, lines.idOfUnmarked(line));
                }
            }
        }

        /** Whether a LINE has the looks of a HEAD; if so, its numbers are in head. */
        private boolean isHead(int line, Lines lines) {
            head.clear();
            if (lines.signAt(line, 0) != '@') {
                return false;
            }
            int place = 1;
            for (int k = 0; k < NUMBERS; k++) {
                int start = place;
                int number = 0;
                while (place < start + 2 && isDigit(lines.signAt(line, place))) {
                    number = number * 10 + lines.signAt(line, place) - '0';
                    place++;
                }
                boolean hasNeedlessZero = place == start + 2 && number < 10;
                int behind = k < NUMBERS - 1 ? ',' : 0;
                if (place == start || hasNeedlessZero || number > MOST || lines.signAt(line, place) != behind) {
                    return false;
                }
                head.push(number);
                place++;
            }
            return true;
        }

        private static boolean isDigit(int sign) {
            return sign >= '0' && sign <= '9';
        }

        private boolean isHeadBehind(int oldEnd, int newEnd) {
            return head.at(OLDS) + head.at(NEWS) > 0
                    && head.at(FROM) >= oldEnd
                    && head.at(FROM) - oldEnd == head.at(TO) - newEnd;
        }
    }

    /** LAYS a PATCH on a copy of a TEXT: work is what comes of it. */
    private static final class Laying {
        // On its way the copy may have more LINES than a TEXT: all of a full one, and all that a PATCH puts in.
        private final Row work = new Row(MOST_LINES + Patch.ROOM);
        private final Patch refused = new Patch();
        private int start = 0;
        private int end = 0;
        private int shift = 0;
        private int low = 0;

        void run(Patch patch, Row text, int give) {
            work.become(text);
            refused.clear();
            shift = 0;
            low = 0;
            for (int hunk = 0; hunk < patch.hunks(); hunk++) {
                start = patch.start(hunk);
                end = patch.end(hunk);
                int from = patch.froms.at(hunk);
                int place = findPlace(patch, from + shift, give);
                if (place == NONE) {
                    refused.takeHunk(patch, hunk);
                } else {
                    int olds = patch.olds.at(hunk);
                    int news = patch.news.at(hunk);
                    replace(patch, olds, place);
                    shift = place - from + news - olds;
                    low = place + news;
                }
            }
        }

        boolean hasMade(Row text) {
            return refused.hunks() == 0 && work.isSame(text);
        }

        private int findPlace(Patch patch, int due, int give) {
            if (fits(patch, due)) {
                return due;
            }
            for (int off = 1; off <= give; off++) {
                if (fits(patch, due - off)) {
                    return due - off;
                }
                if (fits(patch, due + off)) {
                    return due + off;
                }
            }
            return NONE;
        }

        private boolean fits(Patch patch, int place) {
            if (place < low || place > work.size()) {
                return false;
            }
            int at = place;
            for (int step = start; step < end; step++) {
                if (patch.kinds.at(step) != IN) {
                    if (at >= work.size() || work.at(at) != patch.marked.at(step)) {
                        return false;
                    }
                    at++;
                }
            }
            return true;
        }

        private void replace(Patch patch, int olds, int place) {
            work.removeRun(place, place + olds);
            int at = place;
            for (int step = start; step < end; step++) {
                if (patch.kinds.at(step) != OUT) {
                    work.insert(at, patch.marked.at(step));
                    at++;
                }
            }
        }
    }

    /** JOINS two SIDES over a COMMON one: result is what comes of it, quarrels has five numbers for each QUARREL. */
    private static final class Joining {
        /** Each of the three has 30 LINES at most, and no LINE of one comes into the result twice. */
        private static final int ROOM = 3 * MOST_LINES;
        private static final int QUARREL_ROOM = QUARREL_NUMBERS * (MOST_LINES + 1);

        private final Row result = new Row(ROOM);
        private final Row quarrels = new Row(QUARREL_ROOM);
        private final Script toOne = new Script();
        private final Script toTwo = new Script();
        private final Row commonRow = new Row(MOST_LINES);
        private final Row oneRow = new Row(MOST_LINES);
        private final Row twoRow = new Row(MOST_LINES);

        int count() {
            return quarrels.size() / QUARREL_NUMBERS;
        }

        void run(Row common, Row one, Row two, int choice) {
            result.clear();
            quarrels.clear();
            toOne.compare(common, one);
            toTwo.compare(common, two);
            int commonStart = 0;
            int oneStart = 0;
            int twoStart = 0;
            for (int place = 0; place <= common.size(); place++) {
                boolean isEnd = place == common.size();
                int oneEnd = isEnd ? one.size() : toOne.partners.at(place);
                int twoEnd = isEnd ? two.size() : toTwo.partners.at(place);
                if (oneEnd != NONE && twoEnd != NONE) {
                    setRow(commonRow, common, commonStart, place);
                    setRow(oneRow, one, oneStart, oneEnd);
                    setRow(twoRow, two, twoStart, twoEnd);
                    closeGap(choice);
                    commonStart = place + 1;
                    oneStart = oneEnd + 1;
                    twoStart = twoEnd + 1;
                    result.append(common, place, isEnd ? place : place + 1);
                }
            }
        }

        private static void setRow(Row row, Row source, int from, int to) {
            row.clear();
            row.append(source, from, to);
        }

        private void closeGap(int choice) {
            if (oneRow.isSame(commonRow)) {
                result.append(twoRow, 0, twoRow.size());
            } else if (twoRow.isSame(commonRow) || twoRow.isSame(oneRow)) {
                result.append(oneRow, 0, oneRow.size());
            } else {
                settleQuarrel(choice);
            }
        }

        private void settleQuarrel(int choice) {
            int ahead = result.size();
            if (choice == 0 || choice == 3) {
                result.append(oneRow, 0, oneRow.size());
            }
            if (choice == 1 || choice == 3) {
                result.append(twoRow, 0, twoRow.size());
            }
            if (choice == 2) {
                result.append(commonRow, 0, commonRow.size());
            }
            quarrels.push(ahead);
            quarrels.push(commonRow.size());
            quarrels.push(oneRow.size());
            quarrels.push(twoRow.size());
            quarrels.push(result.size() - ahead);
        }
    }

    /** What is kept of a TEXT, with the PLACES of its LINES in the VERSION ahead and in the next one (else NONE). */
    private static final class Version {
        private final Row held = new Row(MOST_LINES);
        private final Row origins = new Row(MOST_LINES);
        private final Row followers = new Row(MOST_LINES);
    }
}
