/** The sentences under "Terms", from the first on, each with a test of its own through the answers that depend on it. */
public final class TermsTest {
    private static final Answers A = new Answers();

    public static void main(String[] args) {
        A.test("every answer speaks of the texts as they stand", TermsTest::asTheyStand);

        A.test("GRAMMAR: rule 0 is the start", TermsTest::startRule);
        A.test("GRAMMAR: a production has 0 to 4 symbols", TermsTest::symbols);
        A.test("GRAMMAR: productions are numbered as they are begun", TermsTest::numbers);
        A.test("GRAMMAR: a rule derives a string if one of its productions does", TermsTest::derives);
        A.test("GRAMMAR: FIRST, the terminals that begin strings which X derives", TermsTest::first);
        A.test("GRAMMAR: END is in FOLLOW(0)", TermsTest::endFollowsStart);
        A.test("GRAMMAR: FOLLOW, every production of every rule", TermsTest::followOfEveryRule);
        A.test("GRAMMAR: FOLLOW, every place where the rule stands", TermsTest::followOfEveryPlace);
        A.test("GRAMMAR: FOLLOW, if the rest is nullable", TermsTest::followPastTheRest);
        A.test("GRAMMAR: FOLLOW, the least sets", TermsTest::followIsLeast);
        A.test("GRAMMAR: PREDICT, FOLLOW if the production is nullable", TermsTest::predict);
        A.test("GRAMMAR: a grammar is good if every rule in it derives, and no two productions clash", TermsTest::good);
        A.test("GRAMMAR: a sentence has one derivation", TermsTest::oneDerivation);

        A.test("TEXTS: a kind 0..9, a value 0..15, 20 tokens at most", TermsTest::tokens);
        A.test("TEXTS: a sentence if rule 0 derives the string of its kinds", TermsTest::sentence);
        A.test("TEXTS: a token has the role of its symbol", TermsTest::rolesOfSymbols);
        A.test("TEXTS: the scopes of a token contain it", TermsTest::scopesContain);
        A.test("TEXTS: the innermost contains fewest tokens", TermsTest::innermost);
        A.test("TEXTS: scopes with equally many tokens are one", TermsTest::equalScopes);
        A.test("TEXTS: a definition defines directly in its innermost scope, or in the root", TermsTest::definesDirectly);
        A.test("TEXTS: definitions and references are numbered by their positions", TermsTest::numberedByPosition);
        A.test("TEXTS: an import in a scope is an import", TermsTest::importInScope);
        A.test("TEXTS: an import makes the file with number value mod 4 imported", TermsTest::importOfEveryValue);
        A.test("TEXTS: a text that is no sentence has no definitions, references and imports", TermsTest::noSentence);

        A.test("LINKING: the first definition by position, before or behind the reference", TermsTest::firstByPosition);
        A.test("LINKING: the scopes, the root, the imports, in this order", TermsTest::orderOfPlaces);
        A.test("LINKING: imports in the order of positions", TermsTest::orderOfImports);
        A.test("LINKING: a file that imports itself", TermsTest::importOfItself);
        A.test("LINKING: a duplicate has an earlier one in the same scope, or both in the root", TermsTest::duplicate);
        A.close();
    }

    private static void build(int want, String... productions) {
        A.due("build of " + String.join(", ", productions), Desks.entered(productions).build(), want);
    }

    private static LanguageDesk blocks(String... texts) {
        LanguageDesk x = Desks.built(Desks.BLOCKS);
        appendAll(x, texts);
        return x;
    }

    private static void appendAll(LanguageDesk x, String... texts) {
        for (int file = 0; file < texts.length; file++) {
            Desks.append(x, file, texts[file]);
        }
    }

    /** The target of the first reference of file 0. */
    private static void target(int want, String... texts) {
        A.due("target(0, 0) in " + String.join(" / ", texts), blocks(texts).target(0, 0), want);
    }

    private static void asTheyStand() {
        LanguageDesk x = blocks("4.1 1.7", "0.7 0.8");
        A.due("linked", x.target(0, 0), 32);
        x.put(1, 0, 0, 8);
        A.due("the name is gone", x.target(0, 0), -1);
        A.due("a duplicate came", x.duplicates(1), 1);
        x.put(1, 1, 0, 7);
        A.due("the name is back, further on", x.target(0, 0), 33);
        x.delete(1, 0);
        A.due("it moved up", x.target(0, 0), 32);
        x.put(1, 1, 3, 0);
        A.due("no sentence", x.target(0, 0), -1);
        A.due("no sentence", x.unresolved(), 1);
        x.delete(1, 1);
        A.due("a sentence again", x.target(0, 0), 32);
        x.put(0, 0, 4, 2);
        A.due("another import", x.target(0, 0), -1);
        x.put(0, 0, 4, 5);
        A.due("the import is back", x.target(0, 0), 32);
        A.due("rename", x.rename(1, 0, 3), true);
        A.due("the reference went with it", x.token(0, 1), 16 + 3);
        x.put(1, 1, 1, 7);
        A.due("the old name is nobody's", x.target(1, 0), -1);
        x.put(1, 1, 1, 3);
        A.due("the new name is", x.target(1, 0), 32);
    }

    private static void startRule() {
        LanguageDesk x = Desks.built("5 : 5", "3 : 3", "0 : 1 R3", "2 : 2");
        appendAll(x, "1.0 3.0", "5.0", "3.0");
        A.due("a sentence begins as rule 0 does", x.expected(0, 0), 2);
        A.due("rule 0 derives 1 3", x.errorAt(0), -1);
        A.due("rule 5, though entered first, is not the start", x.errorAt(1), 0);
        A.due("rule 3 is not the start", x.errorAt(2), 0);
        build(LanguageDesk.UNPRODUCTIVE, "1 : 1", "2 : 2");
    }

    private static void symbols() {
        LanguageDesk x = new LanguageDesk();
        x.production(0, false);
        int[] row = {3, 11, 3, 11};
        for (int s : row) {
            A.due("symbol", x.symbol(s, 0), true);
        }
        A.due("a fifth symbol", x.symbol(3, 0), false);
        x.production(1, false);
        A.due("no symbols are a production too", x.build(), 0);
        Desks.append(x, 0, "3.0 3.0");
        A.due("four symbols, two of them empty", x.errorAt(0), -1);
        A.due("nothing comes behind them", x.expected(0, 2), 1024);
    }

    private static void numbers() {
        LanguageDesk x = new LanguageDesk();
        int[] rules = {3, 3, 0, 5, 0, 1, 2, 4, 4, 4, 0, 1, 5, 2};
        for (int number = 0; number < rules.length; number++) {
            A.due("production of rule " + rules[number], x.production(rules[number], number % 3 == 0), number);
        }
        A.due("there are 14", x.production(0, true), -1);
    }

    private static void derives() {
        build(16, "0 : R0");
        build(16, "0 : R1", "1 : R2", "2 : R1");
        build(17, "0 : 1", "1 : R2", "2 : R1");
        build(17, "0 : 1", "1 : 1 R1", "1 : R1 2", "1 : R1 R1");
        build(0, "0 : 1 R0 R0", "0 : 2");
        build(0, "0 : 1 R5", "5 : 2 R5 R5", "5 : 3");
        // One production that derives a string is enough, so what is left is the conflict.
        build(33, "0 : R0 1", "0 : 2");
        build(35, "0 : 1", "1 : R2", "2 : R1", "2 : 3");
    }

    private static void first() {
        LanguageDesk x = Desks.built("0 : R1 R2 4", "1 : 1", "1 :", "2 : 2", "2 :");
        A.due("past what may be empty", x.expected(0, 0), 2 + 4 + 16);
        build(33, "0 : R1 R2", "0 : 2", "1 :", "2 : 2");
        build(0, "0 : R1 R2", "0 : 2", "1 : 1", "2 : 2");
        build(33, "0 : R1", "0 : 5", "1 : R2 R2 R2 5", "2 : R3 R3 R3 R3", "3 :");
        build(0, "0 : R1", "0 : 5", "1 : R2 R2 6 5", "2 : R3 R3 R3 R3", "3 :");
    }

    private static void endFollowsStart() {
        build(33, "0 :", "0 :");
        build(33, "0 : R1", "0 :", "1 :");
        build(0, "0 : 1", "0 :");
        build(0, "0 : 9 R0", "0 :");
        build(34, "0 : R1", "1 :", "1 :");
        build(33, "0 : R1", "0 : R2", "1 :", "2 :");
        build(0, "0 : R1", "0 : R2 1", "1 :", "2 :");
    }

    private static void followOfEveryRule() {
        // Rule 0 never reaches rules 3 and 4.
        build(34, "0 : R1 6", "1 : 5", "1 :", "3 : R1 5");
        build(0, "0 : R1 6", "1 : 5", "1 :", "3 : R1 4");
        build(34, "0 : 1", "3 :", "3 :", "4 : R3 2");
        build(34, "0 : 1", "3 :", "3 :", "4 : R3 R5", "5 :", "5 : 7");
        build(34, "0 : 1", "3 :", "3 :", "4 : R3 R0");
        // Nothing follows rule 3, not even END.
        build(0, "0 : 1", "3 :", "3 :");
        build(0, "0 : 1", "3 :", "3 :", "4 : R3");
        build(0, "0 : 1", "3 :", "3 :", "3 : 2 R3");
    }

    private static void followOfEveryPlace() {
        build(34, "0 : R1 3 R1 2", "1 : 2", "1 :");
        build(34, "0 : R1 3 R1 2", "1 : 3", "1 :");
        build(0, "0 : R1 3 R1 2", "1 : 4", "1 :");
        build(34, "0 : R1 R1 2", "1 : 4", "1 :");
        build(34, "0 : 2 R1 R1", "1 : 4", "1 :");
    }

    private static void followPastTheRest() {
        build(35, "0 : R1 7", "1 : 1 R2", "2 : 7", "2 :");
        build(35, "0 : R1 7", "1 : R2 R3", "2 : 7", "2 :", "3 : 3", "3 :");
        build(35, "0 : R1 7", "1 : R2 R3", "2 : 3", "2 :", "3 : 3", "3 :");
        build(0, "0 : R1 7", "1 : R2 R3", "2 : 7", "2 :", "3 : 3");
        build(0, "0 : R1 7", "1 : R2 3", "2 : 7", "2 :");
    }

    private static void followIsLeast() {
        build(0, "0 : R1 7", "1 : 9", "1 :");
        build(0, "0 : R1 7", "1 : R2", "2 : 9", "2 :");
        build(0, "0 : 0 R1 7", "0 : 1 R2 8", "1 : 8", "1 :", "2 : 7", "2 :");
        build(0, "0 : 7 R1", "1 : 7", "1 :");
    }

    private static void predict() {
        build(0, "0 : R1 2", "1 : 2", "1 : 3");
        build(34, "0 : R1 2", "1 : 2", "1 :");
        build(0, "0 : R1 2", "1 : R2 3", "1 : 2", "2 : 4", "2 :");
        build(34, "0 : R1 2", "1 : R2", "1 : 2", "2 : 4", "2 :");
        build(34, "0 : R1 2", "1 : R2", "1 : 4", "2 : 4", "2 :");
    }

    private static void good() {
        build(16);
        build(16, "1 : 1");
        build(19, "0 : 1", "3 : 3 R3");
        build(21, "0 : 1", "0 : 2 R5");
        build(0, "0 : 1", "0 : 2");
        build(0, "0 : 1", "1 : 1");
        build(34, "0 : 1", "0 : 2", "0 : 1 2");
    }

    private static void oneDerivation() {
        // A 1 behind a 1 could end the first 1's phrase or begin the next one.
        build(36, "0 : R1 R0", "0 :", "1* : 1 R2", "2 : 1r", "2 :");
        LanguageDesk x = Desks.built("0 : R1 R0", "0 :", "1* : 1 R2", "2 : 2r", "2 :");
        Desks.append(x, 0, "1.0 2.0 1.0");
        A.due("a sentence", x.errorAt(0), -1);
        A.due("the first phrase", x.scope(0, 0), 1);
        A.due("the first phrase", x.scope(0, 1), 1);
        A.due("the second phrase", x.scope(0, 2), 32 * 2 + 2);
    }

    private static void tokens() {
        LanguageDesk x = Desks.built("0 : 1");
        A.due("kind 10", x.put(0, 0, 10, 0), false);
        A.due("value 16", x.put(0, 0, 0, 16), false);
        for (int at = 0; at < 20; at++) {
            A.due("put at " + at, x.put(0, at, 9, 15), true);
            A.due("token at " + at, x.token(0, at), 159);
        }
        A.due("a token at 20", x.put(0, 20, 9, 15), false);
        A.due("there is none", x.token(0, 20), -1);
    }

    private static void sentence() {
        LanguageDesk x = Desks.built("0 : 1 R0 2", "0 : 3", "4 : 5");
        appendAll(x, "1.4 1.5 3.6 2.7 2.8", "1.0 3.0", "3.0 2.0", "5.0");
        int[] want = {-1, 2, 1, 0};
        for (int file = 0; file < want.length; file++) {
            A.due("errorAt of file " + file, x.errorAt(file), want[file]);
        }
        x.put(0, 0, 1, 15);
        A.due("values do not count", x.errorAt(0), -1);
        x.put(0, 2, 5, 6);
        A.due("what rule 4 derives does not count", x.errorAt(0), 2);
    }

    private static void rolesOfSymbols() {
        String[] row = {"0 : 1d 1r 1i 1"};
        LanguageDesk x = Desks.built(row);
        appendAll(x, "1.1 1.1 1.2 1.3");
        A.due("one definition", x.definitions(0), 1);
        A.due("one reference", x.references(0), 1);
        A.due("the reference's target", x.target(0, 0), 0);
        x = Desks.built(row);
        appendAll(x, "1.1 1.4 1.2 1.3", "", "1.4 1.4 1.0 1.0", "1.4 1.4 1.0 1.0");
        A.due("the third token imports", x.target(0, 0), 64);
        x.delete(2, 3);
        A.due("the fourth token does not import", x.target(0, 0), -1);

        x = Desks.built("0 : 5 R1", "0 : 6 R2", "1 : 1d", "2 : 1r");
        appendAll(x, "5.0 1.0", "6.0 1.0");
        A.due("a definition behind 5", x.definitions(0) * 10 + x.references(0), 10);
        A.due("a reference behind 6", x.definitions(1) * 10 + x.references(1), 1);
        x.put(0, 0, 6, 0);
        A.due("another production", x.definitions(0) * 10 + x.references(0), 1);
    }

    private static void scopesContain() {
        LanguageDesk x = Desks.built("0 : R1 R2 R3", "1* : 1", "1* :", "2 : 2", "3* : 3 R4", "4 : 3");
        appendAll(x, "2.0 3.0 3.0", "1.0 2.0 3.0 3.0");
        A.due("an empty scope contains nothing", x.scope(0, 0), -1);
        A.due("a token of the scope", x.scope(0, 1), 32 + 2);
        A.due("a token of a rule in the scope", x.scope(0, 2), 32 + 2);
        A.due("a scope of one token", x.scope(1, 0), 0);
        A.due("between scopes", x.scope(1, 1), -1);
        A.due("further on", x.scope(1, 2), 32 * 2 + 3);
    }

    private static void innermost() {
        LanguageDesk x = blocks("2.0 2.0 0.1 3.0 3.0 0.1");
        int[] want = {4, 35, 35, 35, 4, -1};
        for (int at = 0; at < want.length; at++) {
            A.due("scope of token " + at, x.scope(0, at), want[at]);
        }
    }

    private static void equalScopes() {
        LanguageDesk x = Desks.built("0* : R1", "1* : R2", "2* : 1d 1d 2r");
        Desks.append(x, 0, "1.5 1.5 2.5");
        A.due("one scope", x.scope(0, 1), 2);
        A.due("in one scope", x.duplicates(0), 1);
        A.due("the first in it", x.target(0, 0), 0);
        x = Desks.built("0* : R1 R2 R3", "1* :", "2* : 1d 2r", "3* :");
        Desks.append(x, 0, "1.5 2.5");
        A.due("empty parts count for nothing", x.scope(0, 0), 1);
        A.due("the definition beside it", x.target(0, 0), 0);
    }

    private static void definesDirectly() {
        target(-1, "2.0 0.1 3.0 1.1");
        target(-1, "2.0 2.0 0.1 3.0 1.1 3.0");
        target(0, "2.0 2.0 1.1 3.0 0.1 3.0");
        target(0, "0.1 2.0 2.0 1.1 3.0 3.0");
        target(-1, "4.1 1.1", "2.0 0.1 3.0");
        target(32, "4.1 1.1", "0.1 2.0 3.0");
    }

    private static void numberedByPosition() {
        LanguageDesk x = blocks("2.0 0.1 3.0 0.2 2.0 0.3 1.1 1.2 1.3 3.0 1.2");
        A.due("definitions", x.definitions(0), 3);
        A.due("references", x.references(0), 4);
        int[] want = {-1, 1, 2, 1};
        for (int k = 0; k < want.length; k++) {
            A.due("target of reference " + k, x.target(0, k), want[k]);
        }
    }

    private static void importInScope() {
        target(32, "2.0 4.1 3.0 1.7", "0.7");
        target(32, "1.7 2.0 2.0 4.1 3.0 3.0", "0.7");
        target(32, "2.0 4.1 3.0 2.0 1.7 3.0", "0.7");
        target(64, "2.0 4.2 3.0 4.1 1.7", "0.7", "0.7");
    }

    private static void importOfEveryValue() {
        for (int value = 0; value < 16; value++) {
            LanguageDesk x = Desks.built(Desks.BLOCKS);
            int imported = value & 3;
            int importing = (imported + 1) & 3;
            Desks.append(x, imported, "0.6 0.7");
            Desks.append(x, importing, "4." + value + " 1.7");
            A.due("import of " + value, x.target(importing, 0), 32 * imported + 1);
        }
    }

    private static void noSentence() {
        LanguageDesk x = blocks("0.1 1.1 4.1 1.2 3.0", "0.2 1.1 2.0", "4.1 1.2");
        for (int file = 0; file < 2; file++) {
            A.due("no definitions", x.definitions(file), 0);
            A.due("no references", x.references(file), 0);
            A.due("no such reference", x.target(file, 0), -2);
        }
        A.due("the imported text has no definitions", x.target(2, 0), -1);
        A.due("one reference in all", x.unresolved(), 1);
        x.delete(1, 2);
        A.due("now it has", x.target(2, 0), 32);
        A.due("but file 1 does not define 1", x.unresolved(), 1);
        x.delete(0, 4);
        A.due("its import holds again", x.target(0, 1), 32);
    }

    private static void firstByPosition() {
        target(0, "1.1 0.1 0.1");
        target(0, "0.1 1.1 0.1");
        target(1, "0.2 1.1 0.1 0.1");
        target(0, "2.0 1.1 0.1 3.0");
        target(1, "0.1 2.0 1.1 0.1 3.0");
        target(33, "1.1 4.1", "0.2 0.1 0.1");
    }

    private static void orderOfPlaces() {
        target(2, "0.1 2.0 0.1 2.0 0.1 1.1 3.0 3.0 4.1", "0.1");
        target(1, "0.1 2.0 0.1 2.0 0.9 1.1 3.0 3.0 4.1", "0.1");
        target(0, "0.1 2.0 0.9 2.0 0.9 1.1 3.0 3.0 4.1", "0.1");
        target(32, "0.9 2.0 0.9 2.0 0.9 1.1 3.0 3.0 4.1", "0.1");
        target(-1, "0.9 2.0 0.9 2.0 0.9 1.1 3.0 3.0 4.1", "0.9");
        target(-1, "0.9 2.0 0.9 2.0 0.9 1.1 3.0 3.0 0.9", "0.1");
        // Position counts less than the place: the root's definition comes first in the text, the scope's last.
        target(1, "0.1 2.0 1.1 2.0 3.0 0.1 3.0");
        target(1, "4.1 2.0 0.1 3.0 0.1 1.1", "0.1");
    }

    private static void orderOfImports() {
        target(64, "4.2 4.1 1.1", "0.1", "0.1");
        target(32, "1.1 4.1 4.2", "0.1", "0.1");
        target(32, "4.2 1.1 4.1", "0.1", "0.9");
        target(32, "4.2 4.1 1.1", "0.1", "2.0 0.1 3.0");
        target(64, "4.3 4.2 4.3 4.1 1.1", "0.1", "0.1");
        target(96, "4.3 4.2 4.1 1.1", "0.1", "0.1", "0.1");
        // What an imported file imports is not imported.
        target(-1, "4.1 1.1", "4.2", "0.1");
    }

    private static void importOfItself() {
        target(-1, "1.9 4.0 2.0 0.9 3.0");
        target(32, "4.0 4.1 1.9", "0.9");
        target(0, "4.1 4.0 0.9 1.9", "0.9");
        target(32, "4.0 2.0 0.9 3.0 4.1 1.9", "0.9");
    }

    private static void duplicates(int want, String text) {
        A.due("duplicates in " + text, blocks(text, text).duplicates(1), want);
    }

    private static void duplicate() {
        duplicates(2, "0.1 0.1 0.1");
        duplicates(0, "0.1 2.0 0.1 3.0");
        duplicates(0, "2.0 0.1 3.0 0.1");
        duplicates(0, "2.0 0.1 3.0 2.0 0.1 3.0");
        duplicates(1, "2.0 0.1 2.0 0.1 3.0 0.1 3.0");
        duplicates(1, "0.1 2.0 3.0 0.1");
        duplicates(2, "0.1 2.0 0.2 0.2 3.0 0.1 4.0");
    }
}
