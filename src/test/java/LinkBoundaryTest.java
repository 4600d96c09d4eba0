import java.util.List;
import java.util.function.Consumer;

/** The boundary cases of promises 10 to 15, each sentence that names one with a test of its own. */
public final class LinkBoundaryTest {
    private static final int MIN = Integer.MIN_VALUE, MAX = Integer.MAX_VALUE;
    private static final int[] ANY = {MIN, MIN + 1, -1, 0, 1, 2, 3, 4, 5, 19, 20, 21, 32, MAX - 1, MAX};

    /** Definitions and references in the state TEXTS. */
    private static final int[] DEFINITIONS = {2, 7, 0, 0};
    private static final int[] REFERENCES = {4, 6, 0, 0};

    private static final Answers A = new Answers();
    private static final Twins TWINS = new Twins(A);

    public static void main(String[] args) {
        A.test("10: -2 if there is no such file", LinkBoundaryTest::scopeInNoFile);
        A.test("10: -2 if there is no such token", LinkBoundaryTest::scopeOfNoToken);
        A.test("10: -2 if the grammar is not built", LinkBoundaryTest::scopeWhenNotBuilt);
        A.test("10: -2 if the text is no sentence", LinkBoundaryTest::scopeInNoSentence);
        A.test("10: -1 if the token stands in the root", LinkBoundaryTest::scopeIsRoot);
        A.test("10: a scope over the whole text is not the root", LinkBoundaryTest::scopeOverWholeText);
        A.test("10: a scope of one token", LinkBoundaryTest::scopeOfOneToken);
        A.test("10: a scope of no token", LinkBoundaryTest::scopeOfNothing);
        A.test("10: scopes with equally many tokens are one", LinkBoundaryTest::scopesOverSameTokens);
        A.test("10: scopes side by side", LinkBoundaryTest::scopesSideBySide);

        A.test("11, 12, 14: 0 if there is no such file", LinkBoundaryTest::countsOfNoFile);
        A.test("11, 12, 14: 0 if the grammar is not built", LinkBoundaryTest::countsWhenNotBuilt);
        A.test("11, 12, 14: none in an empty text", LinkBoundaryTest::countsOfEmptyText);
        A.test("11, 12, 14: none if the text is no sentence", LinkBoundaryTest::countsOfNoSentence);
        A.test("11: twenty definitions", LinkBoundaryTest::twentyDefinitions);
        A.test("12: twenty references", LinkBoundaryTest::twentyReferences);
        A.test("11, 12: plain tokens and imports are neither", LinkBoundaryTest::noDefinitionsNorReferences);

        A.test("13: -2 if there is no such file", LinkBoundaryTest::targetInNoFile);
        A.test("13: -2 if there is no such reference", LinkBoundaryTest::targetOfNoReference);
        A.test("13: -2 if the grammar is not built", LinkBoundaryTest::targetWhenNotBuilt);
        A.test("13: -2 if the text is no sentence", LinkBoundaryTest::targetInNoSentence);
        A.test("13: -1 if it is unresolved", LinkBoundaryTest::targetUnresolved);
        A.test("13: the least and the greatest target", LinkBoundaryTest::targetLeastAndGreatest);
        A.test("13: the first definition of that name", LinkBoundaryTest::targetIsFirst);
        A.test("13: the innermost of its scopes that has one", LinkBoundaryTest::targetIsInnermost);
        A.test("13: the first and the last token of a scope are in it", LinkBoundaryTest::targetAtTheEndsOfScope);
        A.test("13: the largest scope that is not the whole text", LinkBoundaryTest::targetInLargeScope);
        A.test("13: if none of its scopes has one, the root", LinkBoundaryTest::targetInRoot);
        A.test("13: a scope that does not contain it has none for it", LinkBoundaryTest::targetNotBesideIt);
        A.test("13: the file with number value mod 4 is imported", LinkBoundaryTest::importsModFour);
        A.test("13: the first imported file that has one", LinkBoundaryTest::importsInOrder);
        A.test("13: in the root of an imported file", LinkBoundaryTest::importsRootOnly);
        A.test("13: a text that is no sentence has no definitions and imports", LinkBoundaryTest::importsNoSentence);
        A.test("13: an imported file's imports do not count", LinkBoundaryTest::importsDoNotGoOn);
        A.test("13: a file that imports itself", LinkBoundaryTest::importsItself);

        A.test("14: the first definition of a name is no duplicate", LinkBoundaryTest::firstIsNoDuplicate);
        A.test("14: nineteen duplicates", LinkBoundaryTest::nineteenDuplicates);
        A.test("14: directly in the same scope, or both in the root", LinkBoundaryTest::duplicatesInOneScope);
        A.test("14: scopes with equally many tokens are one", LinkBoundaryTest::duplicatesInOneOfTwoScopes);

        A.test("15: none, not built", LinkBoundaryTest::unresolvedWhenNotBuilt);
        A.test("15: none, empty texts", LinkBoundaryTest::unresolvedInEmptyTexts);
        A.test("15: eighty, all files", LinkBoundaryTest::unresolvedEighty);
        A.test("15: a text that is no sentence has none", LinkBoundaryTest::unresolvedInNoSentence);

        A.test("10 to 15: questions change nothing", LinkBoundaryTest::questionsChangeNothing);
        A.close();
    }

    private static LanguageDesk blocks(String... texts) {
        LanguageDesk x = Desks.built(Desks.BLOCKS);
        for (int file = 0; file < texts.length; file++) {
            Desks.append(x, file, texts[file]);
        }
        return x;
    }

    private static void fill(LanguageDesk x, int file, int kind, int value) {
        for (int at = 0; at < 20; at++) {
            x.put(file, at, kind, value);
        }
    }

    private static void scopeInNoFile() {
        LanguageDesk x = States.after(States.FULL_TEXTS);
        for (int file : States.outside(0, 3)) {
            A.due("scope(" + file + ", 0)", x.scope(file, 0), -2);
            A.due("scope(" + file + ", 19)", x.scope(file, 19), -2);
            A.due("scope(" + file + ", 20)", x.scope(file, 20), -2);
            A.due("scope(" + file + ", ..)", x.scope(file, -20 * file), -2);
        }
    }

    private static void scopeOfNoToken() {
        for (int file = 0; file < 4; file++) {
            LanguageDesk x = States.after(States.TEXTS);
            LanguageDesk full = States.after(States.FULL_TEXTS);
            for (int at : States.outside(0, States.LENGTHS[file] - 1)) {
                A.due("scope(" + file + ", " + at + ")", x.scope(file, at), -2);
            }
            for (int at : States.outside(0, 19)) {
                A.due("scope(" + file + ", " + at + ")", full.scope(file, at), -2);
            }
            for (int at = 1; at < 80; at++) {
                A.due("scope(" + file + ", -" + at + ")", full.scope(file, -at), -2);
                A.due("scope(" + file + ", " + at + ")", full.scope(file, at), at < 20 ? -1 : -2);
            }
            A.due("an empty text", States.after(States.BUILT).scope(file, 0), -2);
        }
    }

    private static void scopeWhenNotBuilt() {
        for (Consumer<LanguageDesk> run : States.NOT_BUILT) {
            for (int any : ANY) {
                A.due("scope(" + any + ", 0)", States.after(run).scope(any, 0), -2);
                A.due("scope(0, " + any + ")", States.after(run).scope(0, any), -2);
            }
        }
    }

    private static void scopeInNoSentence() {
        LanguageDesk x = blocks("2.0 0.1 3.0 0.2");
        A.due("scope", x.scope(0, 1), 2);
        x.put(0, 3, 3, 0);
        for (int at = 0; at < 4; at++) {
            A.due("one bracket too many", x.scope(0, at), -2);
        }
        x.delete(0, 3);
        A.due("scope", x.scope(0, 1), 2);
        x.delete(0, 2);
        for (int at = 0; at < 3; at++) {
            A.due("a beginning", x.scope(0, at), -2);
        }
    }

    private static void scopeIsRoot() {
        LanguageDesk x = States.after(States.FULL_TEXTS);
        for (int file = 0; file < 4; file++) {
            for (int at = 0; at < 20; at++) {
                A.due("scope(" + file + ", " + at + ")", x.scope(file, at), -1);
            }
        }
        x = blocks("0.1 2.0 3.0 0.1");
        A.due("before a scope", x.scope(0, 0), -1);
        A.due("behind a scope", x.scope(0, 3), -1);
    }

    private static void scopeOverWholeText() {
        LanguageDesk x = Desks.built("0* : 1 R1", "1 : 1 R1", "1 :");
        for (int length = 1; length <= 20; length++) {
            x.put(3, length - 1, 1, 0);
            A.due("the first of " + length, x.scope(3, 0), length - 1);
            A.due("the last of " + length, x.scope(3, length - 1), length - 1);
        }
    }

    private static void scopeOfOneToken() {
        LanguageDesk x = Desks.built("0 : R1 R0", "0 :", "1* : 5");
        fill(x, 2, 5, 0);
        for (int at = 0; at < 20; at++) {
            A.due("scope(2, " + at + ")", x.scope(2, at), 33 * at);
        }
    }

    private static void scopeOfNothing() {
        LanguageDesk x = Desks.built("0 : R1 5 R1 6", "1* :");
        Desks.append(x, 0, "5.0 6.0");
        A.due("beside an empty scope", x.scope(0, 0), -1);
        A.due("beside an empty scope", x.scope(0, 1), -1);
        x = Desks.built("0* : R1 5 R1 6", "1* : 7", "1* :");
        Desks.append(x, 0, "5.0 7.0 6.0");
        A.due("around it", x.scope(0, 0), 2);
        A.due("not empty here", x.scope(0, 1), 33);
    }

    private static void scopesOverSameTokens() {
        LanguageDesk x = Desks.built("0* : R1", "1* : R2", "2* : R3", "3 : R4", "4* : R5", "5* : 1d 2r");
        Desks.append(x, 1, "1.4 2.4");
        A.due("five scopes as one", x.scope(1, 0), 1);
        A.due("five scopes as one", x.scope(1, 1), 1);
        A.due("a definition in it", x.target(1, 0), 32);
        x = Desks.built("0* : R1 R5", "1* : R2", "2* : 1", "5* : 2", "5* :");
        Desks.append(x, 1, "1.4");
        A.due("with an empty one at the end", x.scope(1, 0), 0);
        Desks.append(x, 1, "2.4");
        A.due("two over the first token alone", x.scope(1, 0), 0);
        A.due("one over the second", x.scope(1, 1), 33);
    }

    private static void scopesSideBySide() {
        LanguageDesk x = blocks("2.0 3.0 2.0 3.0 2.0 2.0 3.0 3.0");
        int[] want = {1, 1, 67, 67, 135, 166, 166, 135};
        for (int at = 0; at < want.length; at++) {
            A.due("scope(0, " + at + ")", x.scope(0, at), want[at]);
        }
    }

    private static void countsOfNoFile() {
        for (Consumer<LanguageDesk> run : List.of(States.TEXTS, States.FULL_TEXTS, States.BUILT)) {
            LanguageDesk x = States.after(run);
            for (int file : States.outside(0, 3)) {
                A.due("definitions(" + file + ")", x.definitions(file), 0);
                A.due("references(" + file + ")", x.references(file), 0);
                A.due("duplicates(" + file + ")", x.duplicates(file), 0);
            }
        }
    }

    private static void countsWhenNotBuilt() {
        for (Consumer<LanguageDesk> run : States.NOT_BUILT) {
            for (int file : ANY) {
                A.due("definitions(" + file + ")", States.after(run).definitions(file), 0);
                A.due("references(" + file + ")", States.after(run).references(file), 0);
                A.due("duplicates(" + file + ")", States.after(run).duplicates(file), 0);
            }
        }
    }

    private static void noCounts(String why, LanguageDesk x, int file) {
        A.due(why + ": definitions", x.definitions(file), 0);
        A.due(why + ": references", x.references(file), 0);
        A.due(why + ": duplicates", x.duplicates(file), 0);
    }

    private static void countsOfEmptyText() {
        for (int file = 0; file < 4; file++) {
            noCounts("empty", States.after(States.BUILT), file);
            LanguageDesk x = States.after(States.FULL_TEXTS);
            for (int i = 0; i < 20; i++) {
                x.delete(file, 0);
            }
            noCounts("emptied", x, file);
        }
    }

    private static void countsOfNoSentence() {
        LanguageDesk x = States.after(States.TEXTS);
        for (int file = 0; file < 4; file++) {
            A.due("definitions", x.definitions(file), DEFINITIONS[file]);
            A.due("references", x.references(file), REFERENCES[file]);
            A.due("duplicates", x.duplicates(file), file == 1 ? 2 : 0);
        }
        for (int file = 0; file < 4; file++) {
            x = States.after(States.FULL_TEXTS);
            x.put(file, 19, 2, 0);
            noCounts("a beginning", x, file);
            x.put(file, 19, 9, 0);
            noCounts("no beginning", x, file);
            x.put(file, 19, 0, 0);
            A.due("a sentence again", x.definitions(file) + x.references(file), 20);
        }
    }

    private static void twentyDefinitions() {
        LanguageDesk x = States.after(States.BUILT);
        for (int at = 0; at < 20; at++) {
            x.put(3, at, 0, 0);
            A.due("definitions", x.definitions(3), at + 1);
            A.due("references", x.references(3), 0);
        }
    }

    private static void twentyReferences() {
        LanguageDesk x = States.after(States.BUILT);
        for (int at = 0; at < 20; at++) {
            x.put(3, at, 1, 0);
            A.due("references", x.references(3), at + 1);
            A.due("definitions", x.definitions(3), 0);
        }
    }

    private static void noDefinitionsNorReferences() {
        LanguageDesk x = blocks("2.0 3.0 4.0 4.1 4.2 4.3");
        noCounts("brackets and imports", x, 0);
        A.due("a sentence", x.errorAt(0), -1);
    }

    private static void targetInNoFile() {
        LanguageDesk x = States.after(States.FULL_TEXTS);
        for (int file : States.outside(0, 3)) {
            for (int k : new int[] {MIN, -1, 0, 9, 10, MAX}) {
                A.due("target(" + file + ", " + k + ")", x.target(file, k), -2);
            }
        }
    }

    private static void targetOfNoReference() {
        for (int file = 0; file < 4; file++) {
            LanguageDesk x = States.after(States.TEXTS);
            LanguageDesk full = States.after(States.FULL_TEXTS);
            for (int k : States.outside(0, REFERENCES[file] - 1)) {
                A.due("target(" + file + ", " + k + ")", x.target(file, k), -2);
            }
            for (int k = 10; k <= 100; k++) {
                A.due("target(" + file + ", " + k + ")", full.target(file, k), -2);
                A.due("target(" + file + ", -" + k + ")", full.target(file, -k), -2);
            }
            A.due("an empty text", States.after(States.BUILT).target(file, 0), -2);
            A.due("definitions only", blocks("0.1", "0.1", "0.1", "0.1").target(file, 0), -2);
        }
    }

    private static void targetWhenNotBuilt() {
        for (Consumer<LanguageDesk> run : States.NOT_BUILT) {
            for (int any : ANY) {
                A.due("target(" + any + ", 0)", States.after(run).target(any, 0), -2);
                A.due("target(0, " + any + ")", States.after(run).target(0, any), -2);
            }
        }
    }

    private static void targetInNoSentence() {
        LanguageDesk x = blocks("0.1 1.1");
        A.due("a sentence", x.target(0, 0), 0);
        x.put(0, 2, 2, 0);
        A.due("a beginning", x.target(0, 0), -2);
        x.put(0, 2, 3, 0);
        A.due("no beginning", x.target(0, 0), -2);
        x.delete(0, 2);
        A.due("a sentence again", x.target(0, 0), 0);
    }

    private static void targetUnresolved() {
        for (int name = 0; name < 16; name++) {
            LanguageDesk x = blocks("1." + name);
            A.due("no definition at all", x.target(0, 0), -1);
            Desks.append(x, 0, "0." + (name + 1) % 16);
            Desks.append(x, 1, "0." + name);
            A.due("other names, other files", x.target(0, 0), -1);
            Desks.append(x, 0, "0." + name);
            A.due("its name", x.target(0, 0), 1);
        }
    }

    private static void targetLeastAndGreatest() {
        A.due("file 0, definition 0", blocks("1.0 0.0").target(0, 0), 0);
        LanguageDesk x = blocks("1.5 4.3");
        fill(x, 3, 0, 6);
        x.put(3, 19, 0, 5);
        A.due("file 3, definition 19", x.target(0, 0), 115);
        x = States.after(States.BUILT);
        fill(x, 3, 1, 15);
        x.put(3, 0, 0, 15);
        A.due("reference 18 of file 3", x.target(3, 18), 96);
        A.due("there is no reference 19", x.target(3, 19), -2);
    }

    private static void targetIsFirst() {
        A.due("before it", blocks("0.1 0.1 1.1").target(0, 0), 0);
        A.due("behind it", blocks("1.1 0.2 0.1 0.1").target(0, 0), 1);
        A.due("around it", blocks("0.1 1.1 0.1").target(0, 0), 0);
        A.due("in a scope", blocks("2.0 1.1 0.1 0.1 3.0").target(0, 0), 0);
        A.due("in an imported file", blocks("1.1 4.1", "0.2 0.1 0.1").target(0, 0), 33);
    }

    private static void targetIsInnermost() {
        String text = "0.1 2.0 0.1 2.0 0.1 1.1 3.0 3.0";
        LanguageDesk x = blocks(text);
        A.due("the scope within", x.target(0, 0), 2);
        x.put(0, 4, 0, 2);
        A.due("the scope around", x.target(0, 0), 1);
        x.put(0, 2, 0, 2);
        A.due("the root", x.target(0, 0), 0);
        x.put(0, 0, 0, 2);
        A.due("none", x.target(0, 0), -1);
        A.due("behind it, but in its scope", blocks("0.1 2.0 1.1 0.1 3.0").target(0, 0), 1);
    }

    private static void targetAtTheEndsOfScope() {
        LanguageDesk x = Desks.built("0 : 0d R1 2", "1* : 1r R3 1r", "3 : 0d");
        Desks.append(x, 0, "0.5 1.5 0.5 1.5 2.0");
        A.due("the first token", x.target(0, 0), 1);
        A.due("the last token", x.target(0, 1), 1);
    }

    private static void targetInLargeScope() {
        LanguageDesk x = blocks("0.1 2.0 0.1 1.1 2.0 3.0 2.0 3.0 2.0 3.0 2.0 3.0 2.0 3.0 2.0 3.0 2.0 3.0 4.0 3.0");
        A.due("scope", x.scope(0, 3), 32 + 19);
        A.due("the scope, not the root before it", x.target(0, 0), 1);
        x = blocks("2.0 1.1 0.1 2.0 3.0 2.0 3.0 2.0 3.0 2.0 3.0 2.0 3.0 2.0 3.0 2.0 3.0 4.0 3.0 0.1");
        A.due("scope", x.scope(0, 1), 18);
        A.due("the scope, not the root behind it", x.target(0, 0), 0);
    }

    private static void targetInRoot() {
        A.due("before its scope", blocks("0.1 2.0 1.1 3.0").target(0, 0), 0);
        A.due("behind its scope", blocks("2.0 1.1 3.0 0.1").target(0, 0), 0);
        A.due("a reference in the root", blocks("1.1 0.1").target(0, 0), 0);
        A.due("the whole text is a scope", inScope("0.1 1.1").target(0, 0), 0);
        A.due("the whole text is a scope", inScope("0.2 1.1").target(0, 0), -1);
    }

    private static LanguageDesk inScope(String text) {
        LanguageDesk x = Desks.built("0* : R1 R2", "2 : R1 R2", "2 :", "1 : 0d", "1 : 1r", "1 : 4i");
        Desks.append(x, 0, text);
        return x;
    }

    private static void targetNotBesideIt() {
        A.due("a scope just before it", blocks("2.0 0.1 3.0 1.1").target(0, 0), -1);
        A.due("a scope just behind it", blocks("1.1 2.0 0.1 3.0").target(0, 0), -1);
        A.due("a scope beside its own", blocks("2.0 0.1 3.0 2.0 1.1 3.0").target(0, 0), -1);
        A.due("a scope within its own", blocks("2.0 1.1 2.0 0.1 3.0 3.0").target(0, 0), -1);
        LanguageDesk x = Desks.built("0 : R1 R2 R1", "1* : 0d 0d", "2* : 1r");
        Desks.append(x, 0, "0.1 0.2 1.2 0.2 0.1");
        A.due("a scope of one token between two", x.target(0, 0), -1);
    }

    private static void importsModFour() {
        for (int value = 0; value < 16; value++) {
            LanguageDesk x = blocks("1.9 4." + value, "0.9", "0.8 0.9", "0.8 0.8 0.9");
            int from = value % 4;
            A.due("value " + value, x.target(0, 0), from == 0 ? -1 : 32 * from + from - 1);
            x = blocks("0.8 0.8 0.8 0.9", "0.9", "0.8 0.9", "1.9 4." + value);
            A.due("value " + value, x.target(3, 0), from == 3 ? -1 : 32 * from + (from == 0 ? 3 : from - 1));
        }
    }

    private static void importsInOrder() {
        A.due("files 1, 2", blocks("1.9 4.1 4.2", "0.9", "0.9").target(0, 0), 32);
        A.due("files 2, 1", blocks("1.9 4.2 4.1", "0.9", "0.9").target(0, 0), 64);
        A.due("file 2 has none", blocks("1.9 4.2 4.1", "0.9", "0.8").target(0, 0), 32);
        A.due("files 3, 2, 1", blocks("4.3 4.2 1.9 4.1", "0.9", "0.8", "0.7").target(0, 0), 32);
        A.due("a file twice", blocks("4.3 4.3 4.1 1.9", "0.9", "0.8", "0.7").target(0, 0), 32);
        A.due("imports in scopes", blocks("2.0 4.2 3.0 4.1 1.9", "0.9", "0.9").target(0, 0), 64);
        A.due("its own file first", blocks("4.1 1.9 0.9", "0.9").target(0, 0), 0);
    }

    private static void importsRootOnly() {
        A.due("in a scope", blocks("1.9 4.1", "2.0 0.9 3.0").target(0, 0), -1);
        A.due("in a scope and in the root", blocks("1.9 4.1", "2.0 0.9 3.0 0.9").target(0, 0), 33);
        A.due("in a scope, then another file", blocks("1.9 4.1 4.2", "2.0 0.9 3.0", "0.9").target(0, 0), 64);
        LanguageDesk x = inScope("1.9 4.1");
        Desks.append(x, 1, "0.9");
        A.due("a whole text that is a scope", x.target(0, 0), -1);
    }

    private static void importsNoSentence() {
        LanguageDesk x = blocks("1.9 4.1 4.2", "0.9", "0.9");
        x.put(1, 1, 2, 0);
        A.due("file 1 is a beginning", x.target(0, 0), 64);
        x.put(1, 1, 3, 0);
        A.due("file 1 is none", x.target(0, 0), 64);
        x.put(2, 1, 3, 0);
        A.due("nor is file 2", x.target(0, 0), -1);
        x.delete(1, 1);
        A.due("file 1 is a sentence", x.target(0, 0), 32);
        x.delete(1, 0);
        A.due("file 1 is empty", x.target(0, 0), -1);
    }

    private static void importsDoNotGoOn() {
        LanguageDesk x = blocks("1.9 4.1", "4.2", "0.9 4.3", "0.9");
        A.due("file 1 imports file 2", x.target(0, 0), -1);
        Desks.append(x, 0, "4.3");
        A.due("file 3 itself", x.target(0, 0), 96);
    }

    private static void importsItself() {
        A.due("its scopes stay closed", blocks("1.9 4.0 2.0 0.9 3.0").target(0, 0), -1);
        A.due("its root is its root", blocks("1.9 4.0 0.9").target(0, 0), 0);
        A.due("then others", blocks("1.9 4.0 4.1", "0.9").target(0, 0), 32);
    }

    private static void duplicates(int want, String text) {
        for (int file = 0; file < 4; file++) {
            LanguageDesk x = Desks.built(Desks.BLOCKS);
            Desks.append(x, file, text);
            A.due("duplicates in " + text, x.duplicates(file), want);
        }
    }

    private static void firstIsNoDuplicate() {
        duplicates(0, "0.0");
        duplicates(0, "0.0 0.1 0.15");
        duplicates(1, "0.0 0.0");
        duplicates(1, "0.0 0.1 0.2 0.0");
        duplicates(0, "0.0 1.0 1.0 4.0");
        A.due("other files do not count", blocks("0.1 4.1", "0.1 4.0", "0.1").duplicates(1), 0);
    }

    private static void nineteenDuplicates() {
        for (int value = 0; value < 16; value += 15) {
            LanguageDesk x = States.after(States.BUILT);
            fill(x, 2, 0, value);
            A.due("twenty of one name", x.duplicates(2), 19);
            x.put(2, 0, 0, 7);
            A.due("nineteen of one name", x.duplicates(2), 18);
            x.put(2, 19, 0, 7);
            A.due("two names", x.duplicates(2), 18);
        }
    }

    private static void duplicatesInOneScope() {
        duplicates(0, "0.1 2.0 0.1 3.0");
        duplicates(0, "2.0 0.1 3.0 0.1");
        duplicates(0, "2.0 0.1 3.0 2.0 0.1 3.0");
        duplicates(0, "2.0 0.1 2.0 0.1 3.0 3.0");
        duplicates(1, "2.0 0.1 2.0 3.0 0.1 3.0");
        duplicates(1, "0.1 2.0 3.0 0.1");
        duplicates(2, "0.1 2.0 0.1 0.1 3.0 0.1");
    }

    private static void duplicatesInOneOfTwoScopes() {
        LanguageDesk x = Desks.built("0* : R1", "1* : 0d R2 0d", "2* : R3", "3* : 0d 0d");
        Desks.append(x, 0, "0.1 0.1 0.1 0.1");
        A.due("two within, two around", x.duplicates(0), 2);
        x = Desks.built("0 : R1 0d", "1* : R2", "2* : 0d 0d");
        Desks.append(x, 0, "0.1 0.1 0.1");
        A.due("two in a scope, one in the root", x.duplicates(0), 1);
    }

    private static void unresolvedWhenNotBuilt() {
        for (Consumer<LanguageDesk> run : States.NOT_BUILT) {
            A.due("unresolved", States.after(run).unresolved(), 0);
        }
    }

    private static void unresolvedInEmptyTexts() {
        A.due("unresolved", States.after(States.BUILT).unresolved(), 0);
        LanguageDesk x = blocks("1.1");
        A.due("unresolved", x.unresolved(), 1);
        x.delete(0, 0);
        A.due("unresolved", x.unresolved(), 0);
    }

    private static void unresolvedEighty() {
        LanguageDesk x = States.after(States.BUILT);
        for (int file = 0; file < 4; file++) {
            for (int at = 0; at < 20; at++) {
                x.put(file, at, 1, at % 16);
                A.due("unresolved", x.unresolved(), 20 * file + at + 1);
            }
        }
        x.put(3, 19, 0, 5);
        A.due("one is a definition, one refers to it", x.unresolved(), 78);
        x.put(0, 19, 4, 3);
        A.due("one is an import, one refers to file 3", x.unresolved(), 76);
    }

    private static void unresolvedInNoSentence() {
        LanguageDesk x = blocks("1.1 1.2", "1.1 1.2", "1.1 1.2", "1.1 1.2");
        for (int file = 0; file < 4; file++) {
            x.put(file, 2, 3, 0);
            A.due("unresolved", x.unresolved(), 6 - 2 * file);
        }
    }

    private static void questionsChangeNothing() {
        for (int any : ANY) {
            for (Consumer<LanguageDesk> run : List.of(States.TEXTS, States.ENTERED)) {
                TWINS.same("scope", run.andThen(x -> x.scope(any, 1)), run);
                TWINS.same("scope", run.andThen(x -> x.scope(1, any)), run);
                TWINS.same("definitions", run.andThen(x -> x.definitions(any)), run);
                TWINS.same("references", run.andThen(x -> x.references(any)), run);
                TWINS.same("duplicates", run.andThen(x -> x.duplicates(any)), run);
                TWINS.same("target", run.andThen(x -> x.target(any, 0)), run);
                TWINS.same("target", run.andThen(x -> x.target(1, any)), run);
                TWINS.same("unresolved", run.andThen(LanguageDesk::unresolved), run);
            }
        }
    }
}
