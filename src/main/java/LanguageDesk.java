/**
 * A language workbench: a grammar is entered and built, then four files of tokens are edited, parsed and linked.
 *
 * Only put, delete and build change what a text derives, so they parse it at once and every question reads the outcome.
 * Links depend on the values in all files and are looked up when asked for.
 */
public final class LanguageDesk {
    public static final int OK = 0, BUILT = 1, UNPRODUCTIVE = 16, CONFLICT = 32;

    private static final int TERMINALS = 10;
    private static final int RULES = 6;
    private static final int PRODUCTIONS = 14;
    private static final int WIDTH = 4;
    private static final int ROLES = 4;
    private static final int DEFINITION = 1, REFERENCE = 2, IMPORT = 3;
    private static final int FILES = 4;
    private static final int ROOM = 20;
    private static final int PLACES = FILES * ROOM;
    private static final int NAMES = 16;
    private static final int SPAN = 32;
    private static final int ROOT = -1;
    private static final int NONE = -1;

    // A set of terminals is a mask; this bit stands for END in FOLLOW and for the empty string in FIRST.
    private static final int END = 1 << TERMINALS;

    // One production beyond the entered ones, with rule 0 as its only symbol, so that a parse starts like any other step.
    private static final int START = PRODUCTIONS;
    private static final int SLOTS = PRODUCTIONS + 1;
    private static final int SYMBOLS = SLOTS * WIDTH;

    // Each round but the last adds one element to the set of one rule, so this many rounds reach the least sets.
    private static final int ROUNDS = RULES * (TERMINALS + 1) + 1;

    // A good grammar has no left recursion, so the open productions that begin at one token are of different rules.
    private static final int DEPTH = 1 + RULES * ROOM;

    // Far above need: before a token is taken, each open production is left and each of its symbols passed once at most.
    private static final int STEPS = 1000000;

    private static final int EXPECTED_ROOM = ROOM + 1;
    private static final int EXPECTED_PLACES = FILES * EXPECTED_ROOM;

    private boolean built;
    private int productionCount;
    private final int[] ruleOf = new int[SLOTS];
    private final boolean[] marked = new boolean[SLOTS];
    private final int[] symbolCount = new int[SLOTS];
    private final int[] symbols = new int[SYMBOLS];
    private final int[] roles = new int[SYMBOLS];

    private final boolean[] derives = new boolean[RULES];
    private final int[] first = new int[RULES];
    private final int[] follow = new int[RULES];

    private final int[] textLength = new int[FILES];
    private final int[] kindAt = new int[PLACES];
    private final int[] valueAt = new int[PLACES];

    private final int[] failsAt = new int[FILES];
    private final int[] expectedAt = new int[EXPECTED_PLACES];
    private final int[] roleAt = new int[PLACES];
    private final int[] scopeAt = new int[PLACES];

    private int depth;
    private final int[] openProduction = new int[DEPTH];
    private final int[] openNext = new int[DEPTH];
    private final int[] openStart = new int[DEPTH];

    private final int[] targetBefore = new int[PLACES];

    public LanguageDesk() {
        symbolCount[START] = 1;
        symbols[START * WIDTH] = TERMINALS;
    }

    public int production(int n, boolean scope) {
        if (built || n < 0 || n >= RULES || productionCount >= PRODUCTIONS) {
            return NONE;
        }
        int number = productionCount;
        ruleOf[number] = n;
        marked[number] = scope;
        symbolCount[number] = 0;
        productionCount = number + 1;
        return number;
    }

    public boolean symbol(int s, int role) {
        if (built || productionCount == 0 || s < 0 || s >= TERMINALS + RULES) {
            return false;
        }
        if (s < TERMINALS && (role < 0 || role >= ROLES)) {
            return false;
        }
        int last = productionCount - 1;
        int count = symbolCount[last];
        if (count >= WIDTH) {
            return false;
        }
        symbols[last * WIDTH + count] = s;
        roles[last * WIDTH + count] = role;
        symbolCount[last] = count + 1;
        return true;
    }

    public int build() {
        if (built) {
            return BUILT;
        }
        findDerives();
        int barren = leastBarrenRule();
        if (barren != NONE) {
            return UNPRODUCTIVE + barren;
        }
        findFirst();
        findFollow();
        int clash = leastConflict();
        if (clash != NONE) {
            return CONFLICT + clash;
        }
        built = true;
        for (int file = 0; file < FILES; file++) {
            parse(file);
        }
        return OK;
    }

    public boolean put(int file, int at, int kind, int value) {
        if (!built || !isFile(file) || at < 0 || at > textLength[file] || at >= ROOM) {
            return false;
        }
        if (kind < 0 || kind >= TERMINALS || value < 0 || value >= NAMES) {
            return false;
        }
        int place = file * ROOM + at;
        kindAt[place] = kind;
        valueAt[place] = value;
        if (at == textLength[file]) {
            textLength[file] = at + 1;
        }
        parse(file);
        return true;
    }

    public boolean delete(int file, int at) {
        if (!isToken(file, at)) {
            return false;
        }
        int last = file * ROOM + textLength[file] - 1;
        for (int place = file * ROOM + at; place < last; place++) {
            kindAt[place] = kindAt[place + 1];
            valueAt[place] = valueAt[place + 1];
        }
        textLength[file] = textLength[file] - 1;
        parse(file);
        return true;
    }

    public int token(int file, int at) {
        if (!isToken(file, at)) {
            return NONE;
        }
        int place = file * ROOM + at;
        return kindAt[place] * NAMES + valueAt[place];
    }

    public int errorAt(int file) {
        if (!built || !isFile(file)) {
            return -2;
        }
        return failsAt[file];
    }

    public int expected(int file, int at) {
        if (!built || !isFile(file) || at < 0 || at > textLength[file]) {
            return -1;
        }
        return expectedAt[file * EXPECTED_ROOM + at];
    }

    public int scope(int file, int at) {
        if (!isToken(file, at) || failsAt[file] != NONE) {
            return -2;
        }
        return scopeAt[file * ROOM + at];
    }

    public int definitions(int file) {
        return countRole(file, DEFINITION);
    }

    public int references(int file) {
        return countRole(file, REFERENCE);
    }

    public int target(int file, int k) {
        int place = placeOf(file, REFERENCE, k);
        if (place == NONE) {
            return -2;
        }
        int found = targetPlace(place);
        if (found == NONE) {
            return -1;
        }
        return SPAN * (found / ROOM) + definitionNumber(found);
    }

    public int duplicates(int file) {
        if (!isFile(file)) {
            return 0;
        }
        int count = 0;
        for (int place = file * ROOM; place < file * ROOM + ROOM; place++) {
            if (roleAt[place] == DEFINITION && repeatsEarlier(place)) {
                count++;
            }
        }
        return count;
    }

    public int unresolved() {
        int count = 0;
        for (int place = 0; place < PLACES; place++) {
            if (roleAt[place] == REFERENCE && targetPlace(place) == NONE) {
                count++;
            }
        }
        return count;
    }

    public boolean rename(int file, int d, int name) {
        int definition = placeOf(file, DEFINITION, d);
        if (definition == NONE || name < 0 || name >= NAMES) {
            return false;
        }
        int nameBefore = valueAt[definition];
        int duplicatesBefore = duplicates(file);
        keepTargets();
        giveName(definition, name);
        if (targetsAreAsKept() && duplicates(file) == duplicatesBefore) {
            return true;
        }
        giveName(definition, nameBefore);
        return false;
    }

    public void restart() {
        built = false;
        productionCount = 0;
        for (int file = 0; file < FILES; file++) {
            textLength[file] = 0;
            clearMarks(file);
        }
    }

    private static boolean isFile(int file) {
        return file >= 0 && file < FILES;
    }

    private boolean isToken(int file, int at) {
        return isFile(file) && at >= 0 && at < textLength[file];
    }

    private void findDerives() {
        for (int n = 0; n < RULES; n++) {
            derives[n] = false;
        }
        for (int round = 0; round < ROUNDS; round++) {
            for (int p = 0; p < productionCount; p++) {
                if (allDerive(p)) {
                    derives[ruleOf[p]] = true;
                }
            }
        }
    }

    private boolean allDerive(int p) {
        for (int i = 0; i < symbolCount[p]; i++) {
            int s = symbols[p * WIDTH + i];
            if (s >= TERMINALS && !derives[s - TERMINALS]) {
                return false;
            }
        }
        return true;
    }

    private int leastBarrenRule() {
        for (int n = 0; n < RULES; n++) {
            if (!derives[n] && isNeeded(n)) {
                return n;
            }
        }
        return NONE;
    }

    private boolean isNeeded(int n) {
        if (n == 0) {
            return true;
        }
        for (int p = 0; p < productionCount; p++) {
            if (ruleOf[p] == n || standsIn(n, p)) {
                return true;
            }
        }
        return false;
    }

    private boolean standsIn(int n, int p) {
        for (int i = 0; i < symbolCount[p]; i++) {
            if (symbols[p * WIDTH + i] == TERMINALS + n) {
                return true;
            }
        }
        return false;
    }

    private void findFirst() {
        for (int n = 0; n < RULES; n++) {
            first[n] = 0;
        }
        for (int round = 0; round < ROUNDS; round++) {
            for (int p = 0; p < productionCount; p++) {
                first[ruleOf[p]] |= firstOfRest(p, 0);
            }
        }
    }

    /** FIRST of the symbols of p from number i on, with END if they derive the empty string. */
    private int firstOfRest(int p, int i) {
        int found = END;
        for (int k = i; k < symbolCount[p] && (found & END) != 0; k++) {
            int s = symbols[p * WIDTH + k];
            int more = s < TERMINALS ? 1 << s : first[s - TERMINALS];
            found = (found & ~END) | more;
        }
        return found;
    }

    private void findFollow() {
        for (int n = 0; n < RULES; n++) {
            follow[n] = 0;
        }
        follow[0] = END;
        for (int round = 0; round < ROUNDS; round++) {
            for (int p = 0; p < productionCount; p++) {
                addFollows(p);
            }
        }
    }

    private void addFollows(int p) {
        for (int i = 0; i < symbolCount[p]; i++) {
            int s = symbols[p * WIDTH + i];
            if (s >= TERMINALS) {
                follow[s - TERMINALS] |= firstThenFollow(p, i + 1);
            }
        }
    }

    /** What may stand where the symbols of p from number i on begin: past them, if they may be empty, what follows p. */
    private int firstThenFollow(int p, int i) {
        int found = firstOfRest(p, i);
        if ((found & END) == 0) {
            return found;
        }
        return (found & ~END) | follow[ruleOf[p]];
    }

    private int leastConflict() {
        for (int q = 0; q < productionCount; q++) {
            if (clashesWithEarlier(q)) {
                return q;
            }
        }
        return NONE;
    }

    private boolean clashesWithEarlier(int q) {
        int predicted = firstThenFollow(q, 0);
        for (int p = 0; p < q; p++) {
            if (ruleOf[p] == ruleOf[q]) {
                int other = firstThenFollow(p, 0);
                if ((predicted & other) != 0) {
                    return true;
                }
            }
        }
        return false;
    }

    private void parse(int file) {
        clearMarks(file);
        clearExpected(file);
        depth = 0;
        open(START, 0);
        int length = textLength[file];
        for (int at = 0; at < length; at++) {
            int mask = firstOfOpen();
            expectedAt[file * EXPECTED_ROOM + at] = mask;
            if ((mask & (1 << kindAt[file * ROOM + at])) == 0) {
                failsAt[file] = at;
                clearMarks(file);
                return;
            }
            take(file, at);
        }
        finish(file, length);
    }

    private void finish(int file, int length) {
        int mask = firstOfOpen();
        expectedAt[file * EXPECTED_ROOM + length] = mask;
        if ((mask & END) == 0) {
            failsAt[file] = length;
            clearMarks(file);
            return;
        }
        failsAt[file] = NONE;
        for (int i = 0; i < DEPTH; i++) {
            close(file, length);
        }
    }

    /** Where no sentence is, and behind a text's end, roles stay plain: whoever looks for a role need not ask for either. */
    private void clearMarks(int file) {
        for (int at = 0; at < ROOM; at++) {
            roleAt[file * ROOM + at] = 0;
            scopeAt[file * ROOM + at] = ROOT;
        }
    }

    private void clearExpected(int file) {
        for (int at = 0; at < EXPECTED_ROOM; at++) {
            expectedAt[file * EXPECTED_ROOM + at] = 0;
        }
    }

    /** What may come next: FIRST of all that the open productions still lack, with END if nothing need come. */
    private int firstOfOpen() {
        int found = END;
        for (int i = depth - 1; i >= 0 && (found & END) != 0; i--) {
            int more = firstOfRest(openProduction[i], openNext[i]);
            found = (found & ~END) | more;
        }
        return found;
    }

    /** Moves past the token at that position, which is known to be among those that may come next. */
    private void take(int file, int at) {
        int place = file * ROOM + at;
        for (int step = 0; step < STEPS && depth > 0; step++) {
            int top = depth - 1;
            int p = openProduction[top];
            int i = openNext[top];
            if (i >= symbolCount[p]) {
                close(file, at);
            } else {
                openNext[top] = i + 1;
                int s = symbols[p * WIDTH + i];
                if (s < TERMINALS) {
                    roleAt[place] = roles[p * WIDTH + i];
                    return;
                }
                enter(s - TERMINALS, kindAt[place], at);
            }
        }
    }

    /**
     * Opens the production of rule n that can begin with the kind. Where there is none the rule derives the empty string
     * here; that part of the derivation has no tokens, so it is passed over.
     */
    private void enter(int n, int kind, int at) {
        for (int p = 0; p < productionCount; p++) {
            if (ruleOf[p] == n) {
                int begins = firstOfRest(p, 0);
                if ((begins & (1 << kind)) != 0) {
                    open(p, at);
                    return;
                }
            }
        }
    }

    private void open(int p, int at) {
        if (depth >= DEPTH) {
            return;
        }
        openProduction[depth] = p;
        openNext[depth] = 0;
        openStart[depth] = at;
        depth++;
    }

    /** Leaves the production opened last. Inner scopes are left before outer ones, so a token keeps its first mark. */
    private void close(int file, int end) {
        if (depth == 0) {
            return;
        }
        depth--;
        if (!marked[openProduction[depth]]) {
            return;
        }
        int begin = openStart[depth];
        for (int at = begin; at < end; at++) {
            int place = file * ROOM + at;
            if (scopeAt[place] == ROOT) {
                scopeAt[place] = SPAN * begin + end - 1;
            }
        }
    }

    private int countRole(int file, int role) {
        if (!isFile(file)) {
            return 0;
        }
        int count = 0;
        for (int place = file * ROOM; place < file * ROOM + ROOM; place++) {
            if (roleAt[place] == role) {
                count++;
            }
        }
        return count;
    }

    private int placeOf(int file, int role, int k) {
        if (!isFile(file)) {
            return NONE;
        }
        int number = 0;
        for (int place = file * ROOM; place < file * ROOM + ROOM; place++) {
            if (roleAt[place] == role) {
                if (number == k) {
                    return place;
                }
                number++;
            }
        }
        return NONE;
    }

    private int definitionNumber(int definition) {
        int number = 0;
        for (int place = firstPlaceBeside(definition); place < definition; place++) {
            if (roleAt[place] == DEFINITION) {
                number++;
            }
        }
        return number;
    }

    private static int firstPlaceBeside(int place) {
        return place - place % ROOM;
    }

    private int targetPlace(int reference) {
        if (roleAt[reference] != REFERENCE) {
            return NONE;
        }
        int found = targetInFile(reference);
        if (found != NONE) {
            return found;
        }
        return targetInImports(reference);
    }

    /** Scopes around one token are nested, so the innermost that has the name is the smallest that has it. */
    private int targetInFile(int reference) {
        int begin = firstPlaceBeside(reference);
        int found = NONE;
        int foundSize = ROOM + 2;
        for (int place = begin; place < begin + ROOM; place++) {
            if (defines(place, valueAt[reference]) && scopeHolds(scopeAt[place], reference - begin)) {
                int size = scopeSize(scopeAt[place]);
                if (size < foundSize) {
                    found = place;
                    foundSize = size;
                }
            }
        }
        return found;
    }

    private boolean defines(int place, int name) {
        return roleAt[place] == DEFINITION && valueAt[place] == name;
    }

    private static boolean scopeHolds(int span, int at) {
        return span == ROOT || (at >= span / SPAN && at <= span % SPAN);
    }

    /** The root counts as larger than a scope over a whole text: it lies around it. */
    private static int scopeSize(int span) {
        return span == ROOT ? ROOM + 1 : span % SPAN - span / SPAN + 1;
    }

    private int targetInImports(int reference) {
        int begin = firstPlaceBeside(reference);
        for (int place = begin; place < begin + ROOM; place++) {
            if (roleAt[place] == IMPORT) {
                int found = firstInRoot(valueAt[place] % FILES, valueAt[reference]);
                if (found != NONE) {
                    return found;
                }
            }
        }
        return NONE;
    }

    private int firstInRoot(int file, int name) {
        for (int place = file * ROOM; place < file * ROOM + ROOM; place++) {
            if (scopeAt[place] == ROOT && defines(place, name)) {
                return place;
            }
        }
        return NONE;
    }

    private boolean repeatsEarlier(int definition) {
        for (int place = firstPlaceBeside(definition); place < definition; place++) {
            if (scopeAt[place] == scopeAt[definition] && defines(place, valueAt[definition])) {
                return true;
            }
        }
        return false;
    }

    private void keepTargets() {
        for (int place = 0; place < PLACES; place++) {
            targetBefore[place] = targetPlace(place);
        }
    }

    private boolean targetsAreAsKept() {
        for (int place = 0; place < PLACES; place++) {
            if (targetPlace(place) != targetBefore[place]) {
                return false;
            }
        }
        return true;
    }

    /** Names a definition and, by the targets kept, all references to it. */
    private void giveName(int definition, int name) {
        valueAt[definition] = name;
        for (int place = 0; place < PLACES; place++) {
            if (targetBefore[place] == definition) {
                valueAt[place] = name;
            }
        }
    }
}
