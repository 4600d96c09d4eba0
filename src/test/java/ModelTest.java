import java.util.List;
import java.util.Random;

/** Random grammars and edits with fixed seeds: every answer is compared with the model's. */
public final class ModelTest {
    private static final int OBJECTS = 4000;
    private static final int CALLS = 500;
    private static final Answers A = new Answers();

    private final Random random;
    private final String name;
    private final LanguageDesk desk = new LanguageDesk();
    private final Model model = new Model();
    private int calls = 0;

    private static int grammarsBuilt = 0;
    private static int sentences = 0;
    private static int renamed = 0;
    private static int refused = 0;
    private static int linkedAcross = 0;

    private ModelTest(int seed) {
        random = new Random(seed);
        name = "object " + seed + ", call ";
    }

    public static void main(String[] args) {
        for (int seed = 0; seed < OBJECTS && A.wrong() < 20; seed++) {
            new ModelTest(seed).run();
        }
        System.out.println(grammarsBuilt + " grammars built, " + sentences + " sentences, " + renamed + " renamed, " + refused
            + " renames refused, " + linkedAcross + " targets in other files");
        A.due("enough of each was seen", Math.min(Math.min(grammarsBuilt, sentences), Math.min(renamed, linkedAcross)) > 300, true);
        A.close();
    }

    private void due(String call, int got, int want) {
        calls++;
        A.due(name + calls + ": " + call, got, want);
    }

    private void due(String call, boolean got, boolean want) {
        due(call, got ? 1 : 0, want ? 1 : 0);
    }

    private boolean chance(int percent) {
        return random.nextInt(100) < percent;
    }

    /** Mostly 0 to before bound, and now and then a number that is out of it. */
    private int number(int bound) {
        return chance(3) ? random.nextInt(bound + 6) - 3 : random.nextInt(bound);
    }

    private void run() {
        do {
            boolean good = enterGrammar();
            for (int round = 0; round < 12 && good && calls < CALLS - 160; round++) {
                edit();
                ask();
            }
            if (!good) {
                ask();
            }
            desk.restart();
            model.restart();
            calls++;
        } while (chance(30) && calls < CALLS - 200);
    }

    private boolean enterGrammar() {
        if (chance(25)) {
            enterBlocks();
        } else {
            enterRandom();
        }
        boolean good = build();
        for (int tries = 0; tries < 3 && !good && chance(50); tries++) {
            enterProduction(random.nextInt(6), random.nextInt(10));
            good = build();
        }
        if (good) {
            grammarsBuilt++;
        }
        return good;
    }

    private boolean build() {
        int want = model.build();
        due("build()", desk.build(), want);
        return want == LanguageDesk.OK;
    }

    private void production(int n, boolean scope) {
        due("production(" + n + ", " + scope + ")", desk.production(n, scope), model.production(n, scope));
    }

    private void symbol(int s, int role) {
        due("symbol(" + s + ", " + role + ")", desk.symbol(s, role), model.symbol(s, role));
    }

    /** Statements with definitions, references, imports and scopes, in changing dress: texts with many links. */
    private void enterBlocks() {
        production(0, chance(30));
        symbol(11, 0);
        symbol(10, 0);
        production(0, chance(30));
        for (int kind = 0; kind < 4; kind++) {
            production(1, chance(15));
            symbol(kind, chance(80) ? 1 + kind % 3 : random.nextInt(4));
        }
        production(1, chance(90));
        symbol(4, random.nextInt(4));
        symbol(chance(70) ? 10 : 12, 0);
        symbol(5, random.nextInt(4));
        production(2, chance(50));
        symbol(11, 0);
        symbol(chance(50) ? 11 : 10, 0);
    }

    private void enterRandom() {
        int rules = 1 + random.nextInt(6);
        int count = rules + random.nextInt(6);
        int shift = random.nextInt(10);
        for (int i = 0; i < count; i++) {
            enterProduction(i < rules ? i : random.nextInt(rules), (shift + i) % 10);
        }
    }

    /** Begins with a terminal that others begin with seldom, so that many grammars are good. */
    private void enterProduction(int n, int begin) {
        production(chance(2) ? number(6) : n, chance(40));
        if (chance(15)) {
            return;
        }
        if (chance(70)) {
            symbol(begin, random.nextInt(4));
        }
        int more = random.nextInt(chance(5) ? 6 : 4);
        for (int i = 0; i < more; i++) {
            symbol(chance(50) ? number(10) : chance(70) ? 10 + Math.min(5, n + random.nextInt(3)) : 10 + number(6), number(4));
        }
    }

    private void edit() {
        int file = number(4);
        int kindOfEdit = random.nextInt(10);
        if (kindOfEdit < 4) {
            enterSentence(random.nextInt(4));
        } else if (kindOfEdit < 5) {
            put(file, number(file >= 0 && file < 4 ? model.length(file) + 1 : 21), number(10), number(16));
        } else if (kindOfEdit < 7) {
            changeValue(random.nextInt(4));
        } else if (kindOfEdit < 8) {
            int at = number(20);
            due("delete(" + file + ", " + at + ")", desk.delete(file, at), model.delete(file, at));
        } else {
            rename();
        }
    }

    private void put(int file, int at, int kind, int value) {
        due("put(" + file + ", " + at + ", " + kind + ", " + value + ")", desk.put(file, at, kind, value),
            model.put(file, at, kind, value));
    }

    private int value() {
        return chance(80) ? random.nextInt(3) : random.nextInt(16);
    }

    private void enterSentence(int file) {
        List<Integer> best = model.randomSentence(random);
        for (int tries = 0; tries < 15; tries++) {
            List<Integer> next = model.randomSentence(random);
            if (best == null || next != null && next.size() > best.size()) {
                best = next;
            }
        }
        if (best == null) {
            return;
        }
        while (model.length(file) > best.size()) {
            int last = model.length(file) - 1;
            due("delete(" + file + ", " + last + ")", desk.delete(file, last), model.delete(file, last));
        }
        for (int at = 0; at < best.size(); at++) {
            put(file, at, best.get(at), value());
        }
        sentences++;
    }

    private void changeValue(int file) {
        if (model.length(file) > 0) {
            int at = random.nextInt(model.length(file));
            put(file, at, model.token(file, at) / 16, value());
        }
    }

    private void rename() {
        int file = number(4);
        int d = number(Math.max(1, model.definitions(file)));
        int to = chance(5) ? number(16) : value();
        boolean possible = d >= 0 && d < model.definitions(file);
        boolean want = model.rename(file, d, to);
        due("rename(" + file + ", " + d + ", " + to + ")", desk.rename(file, d, to), want);
        renamed += want ? 1 : 0;
        refused += possible && !want ? 1 : 0;
        for (int other = 0; other < 4; other++) {
            askTokens(other);
        }
    }

    private void askTokens(int file) {
        for (int at = 0; at < model.length(file) && calls < CALLS; at++) {
            due("token(" + file + ", " + at + ")", desk.token(file, at), model.token(file, at));
        }
    }

    private void ask() {
        int file = number(4);
        due("errorAt(" + file + ")", desk.errorAt(file), model.errorAt(file));
        due("definitions(" + file + ")", desk.definitions(file), model.definitions(file));
        due("references(" + file + ")", desk.references(file), model.references(file));
        due("duplicates(" + file + ")", desk.duplicates(file), model.duplicates(file));
        due("unresolved()", desk.unresolved(), model.unresolved());
        int length = file >= 0 && file < 4 ? model.length(file) : 3;
        for (int i = 0; i < 3; i++) {
            int at = number(length + 1);
            due("token(" + file + ", " + at + ")", desk.token(file, at), model.token(file, at));
            due("scope(" + file + ", " + at + ")", desk.scope(file, at), model.scope(file, at));
            due("expected(" + file + ", " + at + ")", desk.expected(file, at), model.expected(file, at));
        }
        for (int k = -1; k <= model.references(file); k++) {
            int want = model.target(file, k);
            due("target(" + file + ", " + k + ")", desk.target(file, k), want);
            linkedAcross += want >= 0 && want / 32 != file ? 1 : 0;
        }
        askEverySentence();
    }

    /** The scopes of all tokens of one file, now and then. */
    private void askEverySentence() {
        int file = random.nextInt(4);
        for (int at = 0; at < model.length(file) && chance(80); at++) {
            due("scope(" + file + ", " + at + ")", desk.scope(file, at), model.scope(file, at));
        }
        due("errorAt(" + file + ")", desk.errorAt(file), model.errorAt(file));
    }
}
