/** For each promise of the document: ordinary inputs, the edges that it names, and wrong inputs. */
public final class PromisesTest {
    private static final int MIN = Integer.MIN_VALUE, MAX = Integer.MAX_VALUE;
    private static final Answers A = new Answers();

    public static void main(String[] args) {
        newObject(new LanguageDesk(), "new");
        production();
        symbol();
        buildUnproductive();
        buildConflict();
        buildOnce();
        put();
        delete();
        token();
        errorAt();
        expected();
        unreachableRules();
        deepTexts();
        scope();
        definitionsAndReferences();
        targetInFile();
        targetAcrossFiles();
        duplicates();
        unresolved();
        renameGivesNames();
        renameRefuses();
        fullTexts();
        restart();
        restartForgetsProductions();
        A.close();
    }

    private static void text(LanguageDesk x, String call, int file, String want) {
        String got = Desks.text(x, file);
        if (!got.equals(want)) {
            System.out.println("text " + file + " is " + got + ", due is " + want);
        }
        A.due(call + ": text " + file + " is as due", got.equals(want), true);
    }

    /** Promise 1: what a fresh object answers, also to wrong inputs. */
    private static void newObject(LanguageDesk x, String when) {
        for (int file : new int[] {MIN, -1, 0, 1, 2, 3, 4, MAX}) {
            A.due(when + " errorAt", x.errorAt(file), -2);
            A.due(when + " expected", x.expected(file, 0), -1);
            A.due(when + " token", x.token(file, 0), -1);
            A.due(when + " delete", x.delete(file, 0), false);
            A.due(when + " put", x.put(file, 0, 0, 0), false);
            A.due(when + " scope", x.scope(file, 0), -2);
            A.due(when + " definitions", x.definitions(file), 0);
            A.due(when + " references", x.references(file), 0);
            A.due(when + " duplicates", x.duplicates(file), 0);
            A.due(when + " target", x.target(file, 0), -2);
            A.due(when + " rename", x.rename(file, 0, 0), false);
        }
        A.due(when + " unresolved", x.unresolved(), 0);
        A.due(when + " symbol", x.symbol(0, 0), false);
        A.due(when + " build", x.build(), LanguageDesk.UNPRODUCTIVE);
        A.due(when + " production", x.production(0, false), 0);
        A.due(when + " build of the empty sentence", x.build(), LanguageDesk.OK);
        for (int file = 0; file < 4; file++) {
            A.due(when + " empty text", x.errorAt(file), -1);
            A.due(when + " empty text", x.token(file, 0), -1);
            A.due(when + " nothing but the end", x.expected(file, 0), 1024);
        }
    }

    /** Promise 2. */
    private static void production() {
        LanguageDesk x = new LanguageDesk();
        for (int n : new int[] {MIN, -1, 6, MAX}) {
            A.due("production of no rule", x.production(n, true), -1);
        }
        for (int number = 0; number < 14; number++) {
            A.due("production", x.production(number % 6, number % 2 == 0), number);
        }
        A.due("15th production", x.production(0, false), -1);
        A.due("symbol after the refused production", x.symbol(3, 0), true);
        A.due("the symbol went to production 13", x.build(), LanguageDesk.CONFLICT + 6);

        x = Desks.built("0 : 1");
        A.due("production when built", x.production(1, false), -1);
        A.due("production when built", x.production(6, false), -1);
        A.due("still built", x.build(), LanguageDesk.BUILT);

        x = Desks.entered("0 : R1");
        A.due("failed build", x.build(), LanguageDesk.UNPRODUCTIVE);
        A.due("production after a failed build", x.production(1, false), 1);
        A.due("build again", x.build(), LanguageDesk.OK);
    }

    /** Promise 3. */
    private static void symbol() {
        LanguageDesk x = new LanguageDesk();
        A.due("symbol without production", x.symbol(0, 0), false);
        A.due("rule without production", x.symbol(10, 0), false);
        x.production(0, false);
        for (int s : new int[] {MIN, -1, 16, MAX}) {
            A.due("no symbol", x.symbol(s, 0), false);
        }
        for (int role : new int[] {MIN, -1, 4, MAX}) {
            A.due("terminal 0 without role", x.symbol(0, role), false);
            A.due("terminal 9 without role", x.symbol(9, role), false);
        }
        A.due("terminal 9", x.symbol(9, 3), true);
        A.due("rule 0, role ignored", x.symbol(10, MAX), true);
        A.due("rule 5, role ignored", x.symbol(15, MIN), true);
        A.due("terminal 0", x.symbol(0, 0), true);
        A.due("fifth symbol", x.symbol(0, 0), false);
        A.due("fifth symbol", x.symbol(10, 0), false);
        Desks.enter(x, "0 :", "5 : 8");
        A.due("build", x.build(), LanguageDesk.OK);
        A.due("symbol when built", x.symbol(1, 0), false);
        Desks.append(x, 0, "9.0 9.0 8.0 0.0 8.0");
        A.due("all four symbols count, in order", x.expected(0, 5), 1);
        Desks.append(x, 0, "0.0");
        A.due("all four symbols count, in order", x.errorAt(0), -1);

        x = Desks.entered("0 : 1");
        A.due("build", x.build(), LanguageDesk.OK);
        x.symbol(2, 0);
        A.due("a refused symbol changes nothing", x.put(0, 0, 1, 0), true);
        A.due("a refused symbol changes nothing", x.errorAt(0), -1);

        x = Desks.entered("0 : R0");
        A.due("failed build", x.build(), LanguageDesk.UNPRODUCTIVE);
        Desks.enter(x, "0 : 1");
        A.due("failed build", x.build(), LanguageDesk.CONFLICT + 1);
        A.due("symbol after a failed build", x.symbol(2, 0), true);

        x = Desks.entered("0 :", "1 :");
        A.due("build", x.build(), LanguageDesk.OK);
        x = Desks.entered("0 : R1", "1 :", "1 :");
        A.due("two empty productions", x.build(), LanguageDesk.CONFLICT + 2);
        A.due("symbol for the last production", x.symbol(4, 2), true);
        A.due("the last production is empty no more", x.build(), LanguageDesk.OK);
        A.due("sentence or symbol", x.expected(0, 0), 1024 + 16);
    }

    private static void built(int want, String... productions) {
        A.due("build of " + String.join(", ", productions), Desks.entered(productions).build(), want);
    }

    /** Promise 4: rules that derive nothing. */
    private static void buildUnproductive() {
        built(16, "1 : 1");
        built(16, "0 : R0");
        built(16, "0 : 1 R0");
        built(16, "0 : R1", "1 : R0");
        built(21, "0 : 1", "5 : 2 R5");
        built(17, "0 : 1", "0 : R1");
        built(17, "0 : 1", "5 : R4", "4 : R1", "4 :", "1 : R1");
        built(19, "0 : 1", "2 : R3", "2 :");
        built(20, "0 : 1", "0 : 1", "5 : R4", "5 : 1");
        built(20, "5 : R4", "5 : 1", "0 : 1");
        built(0, "0 : R1", "1 : R2", "2 : R3", "3 : R4", "4 : R5", "5 : 1");
        built(0, "5 : 1", "4 : R5", "3 : R4", "2 : R3", "1 : R2", "0 : R1");
        built(0, "0 :");
    }

    /** Promise 4: productions with a common element in PREDICT. */
    private static void buildConflict() {
        built(33, "0 : 1", "0 : 1 2");
        built(33, "0 :", "0 :");
        built(34, "0 : 1", "0 : 2", "0 : 2", "0 : 1");
        built(35, "0 : 1", "1 : 2", "0 : 3", "1 : 2 2", "0 : 3");
        built(0, "0 : 1", "1 : 1", "2 : 1");
        built(33, "0 : R0 1", "0 : 2");
        built(33, "0 : R0 1", "0 :");
        // The chain of rules runs against the order of the productions: FIRST needs several rounds.
        built(33, "0 : R1", "0 : 9", "1 : R2", "2 : R3", "3 : R4", "4 : R5", "5 : 9");
        built(33, "0 : R1 9", "0 : 9", "1 : R2", "2 : R3", "3 : R4", "4 : R5", "5 :");
        // FOLLOW goes down the chain: 5 may be followed by 9.
        built(39, "0 : R1 9", "1 : R2", "2 : R3", "3 : R4", "4 : R5", "5 : 8", "5 : 9", "5 :");
        built(39, "5 : 9", "4 : 0 R5", "3 : R4", "2 : 1 R3", "1 : R2", "0 : R1 R0 8", "0 : 9", "5 :");
        // END is an element too, but not one of a rule that always has something behind it.
        built(35, "0 : R1", "1 :", "2 :", "1 : R2");
        built(35, "0 : R1 7", "1 :", "2 :", "1 : R2");
        // Rules that stand in no production of a rule that is reached count as well: here 3 brings 5 behind 1.
        built(34, "0 : R1 6", "1 : 5", "1 :", "3 : R1 5");
        built(0, "0 : R1 6", "1 : 5", "1 :", "3 : R1 4");
        // Nothing follows 3, so its two empty productions have no common element.
        built(0, "0 : 1", "3 :", "3 :");
        built(0, "0 : 1", "3 : R3", "3 :");
        built(34, "0 : 1", "3 :", "3 : R3 2", "3 : R4", "4 :");
        // What follows the second symbol: FIRST of the rest past what may be empty, and past its end FOLLOW of the rule.
        built(34, "0 : R1 R2 R3 4", "1 : 4", "1 :", "2 : 2", "2 :", "3 : 3", "3 :");
        built(0, "0 : R1 R2 R3 4", "1 : 5", "1 :", "2 : 2", "2 :", "3 : 3", "3 :");
        built(34, "0 : R1 R2 R3 4", "1 : 3", "1 :", "2 : 2", "2 :", "3 : 3", "3 :");
        built(0, "0 : R1 R2 R3 4", "1 : 4", "1 :", "2 : 2", "3 : 3", "3 :");
        built(35, "0 : 0 R1 2", "0 : 5 R1 3", "1 : 2", "1 :");
        built(35, "0 : R1 1", "1 : 0 R1", "1 : 1", "1 :");
        built(35, "0 : 2 R1 R0", "0 :", "1 : 2", "1 :");
    }

    /** Promise 4: a grammar is built once. */
    private static void buildOnce() {
        LanguageDesk x = Desks.entered("0 : R1", "1 : R2");
        A.due("build", x.build(), LanguageDesk.UNPRODUCTIVE);
        A.due("not built: put", x.put(0, 0, 1, 1), false);
        A.due("not built: errorAt", x.errorAt(0), -2);
        A.due("not built: expected", x.expected(0, 0), -1);
        Desks.enter(x, "2 : 1", "2 : 1");
        A.due("build", x.build(), LanguageDesk.CONFLICT + 3);
        A.due("not built: put", x.put(0, 0, 1, 1), false);
        A.due("not built: errorAt", x.errorAt(0), -2);
        x.symbol(1, 0);
        A.due("build answers the same again", x.build(), LanguageDesk.CONFLICT + 3);
        Desks.enter(x, "3 : R4");
        A.due("the rule comes before the conflict", x.build(), LanguageDesk.UNPRODUCTIVE + 3);

        x = Desks.entered("0 : R1 R2 5", "1 : 5", "1 :", "2 :");
        A.due("5 follows rule 1", x.build(), LanguageDesk.CONFLICT + 2);
        x.symbol(6, 0);
        A.due("5 follows rule 1 no more", x.build(), LanguageDesk.OK);

        x = Desks.built("0 : 1", "1 :");
        A.due("build", x.build(), LanguageDesk.BUILT);
        A.due("build", x.build(), LanguageDesk.BUILT);
        Desks.append(x, 3, "1.2");
        A.due("build", x.build(), LanguageDesk.BUILT);
        text(x, "build changes no text", 3, "1.2");
        A.due("OK", LanguageDesk.OK, 0);
        A.due("BUILT", LanguageDesk.BUILT, 1);
        A.due("UNPRODUCTIVE", LanguageDesk.UNPRODUCTIVE, 16);
        A.due("CONFLICT", LanguageDesk.CONFLICT, 32);
    }

    /** Promise 5. */
    private static void put() {
        LanguageDesk x = Desks.entered(Desks.BLOCKS);
        A.due("put before build", x.put(0, 0, 0, 0), false);
        x.build();
        text(x, "put before build", 0, "");
        A.due("append", x.put(0, 0, 9, 15), true);
        A.due("append", x.put(0, 1, 0, 0), true);
        A.due("append", x.put(3, 0, 5, 7), true);
        A.due("replace", x.put(0, 0, 8, 14), true);
        text(x, "put", 0, "8.14 0.0");
        text(x, "put", 1, "");
        text(x, "put", 3, "5.7");
        for (int wrong : new int[] {MIN, -1, 16, 20, 21, MAX}) {
            A.due("no file", x.put(wrong, 0, 0, 0), false);
            A.due("no position", x.put(0, wrong, 0, 0), false);
            A.due("no kind", x.put(0, 0, wrong, 0), false);
            A.due("no value", x.put(0, 0, 0, wrong), false);
            A.due("no value to append", x.put(0, 2, 0, wrong), false);
        }
        A.due("no file", x.put(4, 0, 0, 0), false);
        A.due("no position", x.put(0, 3, 0, 0), false);
        A.due("no kind", x.put(0, 0, 10, 0), false);
        text(x, "refused puts", 0, "8.14 0.0");
        for (int at = 2; at < 20; at++) {
            A.due("append", x.put(0, at, at % 10, at % 16), true);
        }
        A.due("21st token", x.put(0, 20, 0, 0), false);
        A.due("22nd token", x.put(0, 21, 0, 0), false);
        A.due("token 20", x.token(0, 20), -1);
        text(x, "a full text leaves the next file alone", 1, "");
        A.due("replace in a full text", x.put(0, 19, 1, 2), true);
        A.due("replace in a full text", x.token(0, 19), 18);
        A.due("replace in a full text", x.put(0, 0, 1, 3), true);
        A.due("replace in a full text", x.token(0, 0), 19);
    }

    /** Promise 6. */
    private static void delete() {
        LanguageDesk x = Desks.built(Desks.BLOCKS);
        Desks.append(x, 1, "0.1 1.2 2.3 3.4");
        Desks.append(x, 2, "9.9");
        for (int wrong : new int[] {MIN, -1, 4, 5, 20, MAX}) {
            A.due("no file", x.delete(wrong, 0), false);
            A.due("no token", x.delete(1, wrong), false);
        }
        A.due("empty file", x.delete(0, 0), false);
        text(x, "refused deletes", 1, "0.1 1.2 2.3 3.4");
        A.due("delete in the middle", x.delete(1, 1), true);
        text(x, "delete in the middle", 1, "0.1 2.3 3.4");
        A.due("delete the last", x.delete(1, 2), true);
        text(x, "delete the last", 1, "0.1 2.3");
        A.due("the text is a sentence no more", x.errorAt(1), 2);
        A.due("no such token any more", x.delete(1, 2), false);
        A.due("delete the first", x.delete(1, 0), true);
        text(x, "delete the first", 1, "2.3");
        A.due("delete all", x.delete(1, 0), true);
        text(x, "delete all", 1, "");
        A.due("the empty text is a sentence", x.errorAt(1), -1);
        text(x, "other file", 2, "9.9");
        for (int at = 0; at < 20; at++) {
            x.put(1, at, 0, at % 16);
        }
        A.due("delete in a full text", x.delete(1, 0), true);
        A.due("the last one moved up", x.token(1, 18), 3);
        A.due("nothing came in behind it", x.token(1, 19), -1);
        A.due("room again", x.put(1, 19, 4, 4), true);
        text(x, "other file", 2, "9.9");
    }

    /** Promise 7. */
    private static void token() {
        LanguageDesk x = Desks.built(Desks.BLOCKS);
        Desks.append(x, 3, "0.0 0.15 9.0 9.15 7.11");
        int[] want = {0, 15, 144, 159, 123, -1, -1};
        for (int at = 0; at < want.length; at++) {
            A.due("token(3, " + at + ")", x.token(3, at), want[at]);
        }
        for (int wrong : new int[] {MIN, -1, 20, 21, MAX}) {
            A.due("no token", x.token(3, wrong), -1);
            A.due("no file", x.token(wrong, 0), -1);
        }
        A.due("no file", x.token(4, 0), -1);
        A.due("empty file", x.token(2, 0), -1);
        A.due("before file 3", x.token(3, -20), -1);
    }

    /** Promise 8. */
    private static void errorAt() {
        LanguageDesk x = Desks.built("0 : 1 R1 2", "1 : 3 R1", "1 :");
        for (int wrong : new int[] {MIN, -1, 4, MAX}) {
            A.due("no file", x.errorAt(wrong), -2);
        }
        A.due("the empty text is a beginning", x.errorAt(0), 0);
        String[] texts = {"1.0", "1.0 3.0", "1.0 2.0", "1.0 3.0 3.0 2.0", "1.0 2.0 2.0", "2.0", "1.0 3.0 4.0 2.0", "1.0 1.0",
            "1.0 2.0 3.0 3.0", "9.0 1.0 2.0"};
        int[] want = {1, 2, -1, -1, 2, 0, 2, 1, 2, 0};
        for (int i = 0; i < texts.length; i++) {
            x = Desks.built("0 : 1 R1 2", "1 : 3 R1", "1 :");
            Desks.append(x, i % 4, texts[i]);
            A.due("errorAt of " + texts[i], x.errorAt(i % 4), want[i]);
            A.due("errorAt of another file", x.errorAt((i + 1) % 4), 0);
        }
        x = Desks.entered("0 : 1");
        A.due("not built", x.errorAt(0), -2);
    }

    /** Promise 9. */
    private static void expected() {
        LanguageDesk x = Desks.built("0 : R1 R2 R3", "1 : 1", "1 :", "2 : 2 R2", "2 :", "3 : 3 0", "3 : 4");
        A.due("all that may begin", x.expected(0, 0), 2 + 4 + 8 + 16);
        Desks.append(x, 0, "1.0 2.0 3.0 0.0 4.0");
        int[] want = {30, 28, 28, 1, 1024, 0, -1};
        for (int at = 0; at < want.length; at++) {
            A.due("expected(0, " + at + ")", x.expected(0, at), want[at]);
        }
        for (int wrong : new int[] {MIN, -1, 21, MAX}) {
            A.due("no position", x.expected(0, wrong), -1);
            A.due("no file", x.expected(wrong, 0), -1);
        }
        A.due("no file", x.expected(4, 0), -1);
        A.due("behind an empty text", x.expected(1, 1), -1);
        x.put(0, 0, 9, 0);
        A.due("before the error", x.expected(0, 0), 30);
        A.due("behind the error", x.expected(0, 1), 0);
        A.due("behind the error", x.expected(0, 5), 0);
        x.delete(0, 0);
        A.due("the text as it stands", x.expected(0, 1), 28);
        A.due("behind the shorter text", x.expected(0, 5), -1);

        x = Desks.built("0 : 9 R0", "0 :");
        for (int at = 0; at < 20; at++) {
            x.put(2, at, 9, 0);
        }
        A.due("a full text may end", x.expected(2, 20), 1024 + 512);
        A.due("a full text is a sentence", x.errorAt(2), -1);
        A.due("behind a full text", x.expected(2, 21), -1);
        A.due("the next file", x.expected(3, 0), 1024 + 512);
        A.due("the next file", x.expected(3, 1), -1);
    }

    /** Promises 8 and 9: FOLLOW may hold what can't stand there. */
    private static void unreachableRules() {
        LanguageDesk x = Desks.built("0 : R1 6", "1 : 5", "1 :", "3 : R1 4");
        A.due("4 follows rule 1 only in rule 3", x.expected(0, 0), 32 + 64);
        Desks.append(x, 0, "5.0");
        A.due("4 follows rule 1 only in rule 3", x.expected(0, 1), 64);
        // Rule 1 may be followed by 2 or by 3, but each only in its own place.
        x = Desks.built("0 : 0 R1 2", "0 : 5 R1 3", "1 : 1", "1 :");
        Desks.append(x, 0, "0.0 3.0 2.0");
        A.due("3 can't stand behind 0", x.expected(0, 1), 2 + 4);
        A.due("3 can't stand behind 0", x.errorAt(0), 1);
        A.due("behind the error", x.expected(0, 2), 0);
        Desks.append(x, 1, "5.0 1.0 2.0");
        A.due("3 must stand behind 5 1", x.expected(1, 2), 8);
        A.due("3 must stand behind 5 1", x.errorAt(1), 2);
        // Rules without a token in any text.
        x = Desks.built("0 : R1 R1 R1 R1", "1 : R2 R2 R2 R2", "2 : R3 R3 R3 R3", "3 : R4 R4 R4 R4", "4 : R5 R5 R5 R5", "5 :");
        A.due("only the empty text", x.expected(0, 0), 1024);
        A.due("only the empty text", x.errorAt(0), -1);
        x.put(0, 0, 0, 0);
        A.due("only the empty text", x.errorAt(0), 0);
    }

    /** Promises 8 to 10 in the deepest derivations that twenty tokens can have. */
    private static void deepTexts() {
        LanguageDesk x = Desks.built("0* : R1", "1* : R2", "2 : R3", "3 : R4", "4 : R5", "5 : 1d R0", "5 : 2r");
        for (int at = 0; at < 19; at++) {
            x.put(0, at, 1, at % 16);
        }
        A.due("19 levels open", x.expected(0, 19), 2 + 4);
        A.due("19 levels open", x.errorAt(0), 19);
        x.put(0, 19, 2, 3);
        A.due("20 levels", x.errorAt(0), -1);
        A.due("20 levels", x.expected(0, 20), 1024);
        for (int at = 0; at < 20; at++) {
            A.due("scope of level " + at, x.scope(0, at), 32 * at + 19);
        }
        A.due("20 levels", x.definitions(0), 19);
        A.due("the innermost of names 3 and 3", x.target(0, 0), 3);
        x.put(0, 19, 2, 2);
        A.due("the innermost of names 2 and 2", x.target(0, 0), 18);

        x = Desks.built("0 : 1 R0 2 R5", "0 :", "5 : R4 R4 R4 R4", "4 : R3 R3 R3 R3", "3 : R2 R2 R2 R2", "2 : R1 R1 R1", "1 :");
        for (int at = 0; at < 20; at++) {
            x.put(1, at, at < 10 ? 1 : 2, 0);
        }
        A.due("ten pairs", x.errorAt(1), -1);
        A.due("ten open", x.expected(1, 10), 2 + 4);
        A.due("one open", x.expected(1, 19), 4);
        x.put(1, 19, 1, 0);
        A.due("one open", x.errorAt(1), 19);
    }

    /** Promise 10. */
    private static void scope() {
        LanguageDesk x = Desks.built(Desks.BLOCKS);
        Desks.append(x, 1, "0.1 2.0 2.0 3.0 1.1 3.0 2.0 3.0");
        int[] want = {-1, 32 + 5, 64 + 3, 64 + 3, 32 + 5, 32 + 5, 192 + 7, 192 + 7, -2};
        for (int at = 0; at < want.length; at++) {
            A.due("scope(1, " + at + ")", x.scope(1, at), want[at]);
        }
        for (int wrong : new int[] {MIN, -1, 20, MAX}) {
            A.due("no token", x.scope(1, wrong), -2);
            A.due("no file", x.scope(wrong, 0), -2);
        }
        A.due("no file", x.scope(4, 0), -2);
        A.due("empty file", x.scope(0, 0), -2);
        x.delete(1, 7);
        for (int at = 0; at < 8; at++) {
            A.due("no sentence", x.scope(1, at), -2);
        }
        x.put(1, 6, 0, 0);
        A.due("a sentence again", x.scope(1, 2), 64 + 3);
        A.due("the root again", x.scope(1, 6), -1);

        // One token alone, a scope over the whole text, and a scope without tokens.
        x = Desks.built("0* : R1 2 R1 R3", "1* :", "3* : R4", "4 : 5 R3", "4 : 6");
        Desks.append(x, 0, "2.0 5.0 6.0");
        A.due("whole text", x.scope(0, 0), 2);
        A.due("to the end", x.scope(0, 1), 32 + 2);
        A.due("one token", x.scope(0, 2), 64 + 2);
        x = Desks.built("0 : R1 R2", "1* : 1 R3", "2 : 2", "3 : 3", "3 :");
        Desks.append(x, 0, "1.0 2.0");
        A.due("a scope ends before what it leaves out", x.scope(0, 0), 0);
        A.due("no scope", x.scope(0, 1), -1);
    }

    /** Promises 11 and 12. */
    private static void definitionsAndReferences() {
        LanguageDesk x = Desks.built(Desks.BLOCKS);
        Desks.append(x, 0, "0.1 1.1 2.0 0.1 0.2 1.9 3.0 4.1 1.0");
        Desks.append(x, 3, "1.1");
        A.due("definitions", x.definitions(0), 3);
        A.due("references", x.references(0), 3);
        A.due("definitions", x.definitions(3), 0);
        A.due("references", x.references(3), 1);
        A.due("empty", x.definitions(1), 0);
        A.due("empty", x.references(2), 0);
        for (int wrong : new int[] {MIN, -1, 4, MAX}) {
            A.due("no file", x.definitions(wrong), 0);
            A.due("no file", x.references(wrong), 0);
        }
        x.delete(0, 6);
        A.due("no sentence", x.definitions(0), 0);
        A.due("no sentence", x.references(0), 0);
        x.put(0, 8, 3, 0);
        A.due("a sentence again", x.definitions(0), 3);
        A.due("a sentence again", x.references(0), 3);
        x.put(0, 8, 9, 0);
        A.due("no terminal of the grammar", x.definitions(0), 0);

        // The role is the symbol's, not the terminal's.
        x = Desks.built("0 : 1d 1r 1 1i", "2 : R0");
        Desks.append(x, 2, "1.5 1.5 1.5 1.5");
        A.due("one kind, four roles", x.definitions(2), 1);
        A.due("one kind, four roles", x.references(2), 1);
        A.due("one kind, four roles", x.target(2, 0), 64);
    }

    /** Promise 13, within a file. */
    private static void targetInFile() {
        LanguageDesk x = Desks.built(Desks.BLOCKS);
        // Name 1 is defined in the root, in a scope and in a scope within it; each reference sees its innermost.
        Desks.append(x, 1, "1.1 2.0 1.1 0.1 2.0 1.1 0.1 0.1 3.0 1.1 3.0 0.1 0.1 2.0 1.1 1.2 0.3 3.0 1.3 1.2");
        int[] want = {32 + 3, 32, 32 + 1, 32, 32 + 3, -1, -1, -1, -2};
        for (int k = 0; k < want.length; k++) {
            A.due("target(1, " + k + ")", x.target(1, k), want[k]);
        }
        for (int wrong : new int[] {MIN, -1, 8, 20, MAX}) {
            A.due("no reference", x.target(1, wrong), -2);
            A.due("no file", x.target(wrong, 0), -2);
        }
        A.due("no file", x.target(4, 0), -2);
        A.due("no reference", x.target(0, 0), -2);
        x.put(1, 19, 2, 0);
        A.due("no sentence", x.target(1, 0), -2);

        // A scope over the whole text is not the root, and two scopes over the same tokens are one.
        x = Desks.built("0* : R1", "1* : 0d R2 1r", "2* : 0d 1r 1r");
        Desks.append(x, 0, "0.5 0.6 1.5 1.6 1.6");
        A.due("outer scope", x.target(0, 0), 0);
        A.due("inner scope", x.target(0, 1), 1);
        A.due("not in the inner scope", x.target(0, 2), -1);

        x = Desks.built("0 : 2 R1 2", "1* : 1r 0d 0d 1r");
        Desks.append(x, 0, "2.0 1.5 0.5 0.6 1.6 2.0");
        A.due("the first token of a scope", x.target(0, 0), 0);
        A.due("the last token of a scope", x.target(0, 1), 1);
    }

    /** Promise 13, across files. */
    private static void targetAcrossFiles() {
        LanguageDesk x = Desks.built(Desks.BLOCKS);
        Desks.append(x, 0, "1.1 1.2 1.3 1.4 2.0 4.15 3.0 4.6 0.4");
        Desks.append(x, 2, "0.1 0.2 0.2 4.1");
        Desks.append(x, 3, "2.0 0.1 3.0 0.2 0.4");
        Desks.append(x, 1, "0.3");
        A.due("only in a scope of file 3, so file 2", x.target(0, 0), 64);
        A.due("file 3 is imported first", x.target(0, 1), 96 + 1);
        A.due("imports don't go on", x.target(0, 2), -1);
        A.due("its own file comes first", x.target(0, 3), 0);
        x.put(0, 5, 4, 2);
        A.due("file 2 alone, the first of two", x.target(0, 1), 64 + 1);
        x.put(2, 3, 2, 0);
        A.due("file 2 is no sentence", x.target(0, 1), -1);
        x.put(0, 5, 4, 9);
        A.due("9 mod 4 is file 1", x.target(0, 2), 32);
        x.put(0, 5, 4, 4);
        A.due("a file may import itself", x.target(0, 2), -1);
        A.due("a file may import itself", x.target(0, 3), 0);

        // Its own scopes and root come before imports, also where the imported name stands nearer.
        x = Desks.built(Desks.BLOCKS);
        Desks.append(x, 0, "4.1 2.0 1.1 4.1 3.0 0.1");
        Desks.append(x, 1, "0.1");
        A.due("root before imports", x.target(0, 0), 0);
        x.put(0, 5, 0, 2);
        A.due("imports after the root", x.target(0, 0), 32);
        x.put(0, 5, 3, 2);
        A.due("no sentence, no references", x.target(0, 0), -2);
    }

    /** Promise 14. */
    private static void duplicates() {
        LanguageDesk x = Desks.built(Desks.BLOCKS);
        Desks.append(x, 2, "0.1 2.0 0.1 0.2 0.1 3.0 0.1 0.2 2.0 0.1 3.0 0.1 1.1");
        A.due("two in the root, one in a scope", x.duplicates(2), 3);
        Desks.append(x, 1, "0.1 0.2 2.0 0.2 2.0 0.2 3.0 3.0 1.2");
        A.due("one name in different scopes", x.duplicates(1), 0);
        A.due("empty", x.duplicates(0), 0);
        for (int wrong : new int[] {MIN, -1, 4, MAX}) {
            A.due("no file", x.duplicates(wrong), 0);
        }
        x.put(2, 12, 3, 0);
        A.due("no sentence", x.duplicates(2), 0);

        x = Desks.built("0* : R1 0d", "1* : R2", "2* : 0d 0d R3", "3 : R4", "3 :", "4 : 5");
        Desks.append(x, 0, "0.1 0.1 0.1");
        A.due("scopes over the same tokens are one", x.duplicates(0), 1);
    }

    /** Promise 15. */
    private static void unresolved() {
        LanguageDesk x = Desks.built(Desks.BLOCKS);
        A.due("no references", x.unresolved(), 0);
        Desks.append(x, 0, "1.1 1.2 0.2");
        Desks.append(x, 1, "1.2 1.3 2.0 1.2 3.0");
        Desks.append(x, 3, "0.3 2.0 1.9");
        A.due("one in file 0, three in file 1", x.unresolved(), 4);
        Desks.append(x, 3, "3.0");
        A.due("one more in file 3", x.unresolved(), 5);
        Desks.append(x, 1, "4.0");
        A.due("file 1 imports file 0", x.unresolved(), 3);
        Desks.append(x, 1, "4.3");
        A.due("and file 3", x.unresolved(), 2);
        x.put(1, 0, 3, 0);
        A.due("file 1 is no sentence", x.unresolved(), 2);
        x.put(3, 0, 3, 0);
        A.due("nor is file 3", x.unresolved(), 1);
    }

    /** Promise 16: what a rename changes. */
    private static void renameGivesNames() {
        LanguageDesk x = Desks.built(Desks.BLOCKS);
        Desks.append(x, 0, "0.1 1.1 2.0 0.1 1.1 3.1 1.1 4.1 1.7");
        Desks.append(x, 1, "0.7 2.7 1.7 0.1 3.0");
        Desks.append(x, 2, "1.1 4.0 1.7");
        Desks.append(x, 3, "1.1 1.7 3.0");
        A.due("rename(0, 0, 5)", x.rename(0, 0, 5), true);
        text(x, "root definition", 0, "0.5 1.5 2.0 0.1 1.1 3.1 1.5 4.1 1.7");
        text(x, "root definition", 1, "0.7 2.7 1.7 0.1 3.0");
        text(x, "references in another file", 2, "1.5 4.0 1.7");
        text(x, "no sentence", 3, "1.1 1.7 3.0");
        A.due("rename(1, 0, 15)", x.rename(1, 0, 15), true);
        text(x, "imported definition", 0, "0.5 1.5 2.0 0.1 1.1 3.1 1.5 4.1 1.15");
        text(x, "imported definition", 1, "0.15 2.7 1.15 0.1 3.0");
        text(x, "imports don't go on", 2, "1.5 4.0 1.7");
        A.due("rename(0, 1, 0)", x.rename(0, 1, 0), true);
        text(x, "definition in a scope", 0, "0.5 1.5 2.0 0.0 1.0 3.1 1.5 4.1 1.15");
        A.due("rename to its name", x.rename(0, 1, 0), true);
        A.due("two names that meet in no reference", x.rename(1, 1, 5), true);
        text(x, "definition in a scope", 1, "0.15 2.7 1.15 0.5 3.0");
        A.due("target as before", x.target(2, 0), 0);
        A.due("target as before", x.target(0, 3), 32);

        // A name of its scope's outside may be taken where nothing refers to the outer one from within.
        x = Desks.built(Desks.BLOCKS);
        Desks.append(x, 0, "0.1 1.1 2.0 0.2 1.2 3.0");
        A.due("hides an outer name that is not used there", x.rename(0, 1, 1), true);
        text(x, "hides", 0, "0.1 1.1 2.0 0.1 1.1 3.0");
        A.due("outer target", x.target(0, 0), 0);
        A.due("inner target", x.target(0, 1), 1);
        A.due("both are named alike, not each other's", x.rename(0, 0, 3), true);
        text(x, "outer one again", 0, "0.3 1.3 2.0 0.1 1.1 3.0");
    }

    private static void refused(String why, LanguageDesk x, int file, int d, int name) {
        String before = texts(x);
        A.due("rename: " + why, x.rename(file, d, name), false);
        A.due("rename refused, texts as before: " + why, texts(x).equals(before), true);
    }

    private static String texts(LanguageDesk x) {
        return Desks.text(x, 0) + "/" + Desks.text(x, 1) + "/" + Desks.text(x, 2) + "/" + Desks.text(x, 3);
    }

    /** Promise 16: what a rename must not do. */
    private static void renameRefuses() {
        LanguageDesk x = Desks.built(Desks.BLOCKS);
        Desks.append(x, 0, "0.1 2.0 1.1 0.2 3.0 1.2 0.4 0.4 4.3");
        Desks.append(x, 1, "4.0 4.3 1.1 1.9");
        Desks.append(x, 3, "0.9 2.0 0.8 3.0");
        for (int wrong : new int[] {MIN, -1, 16, MAX}) {
            refused("no file", x, wrong, 0, 5);
            refused("no definition", x, 0, wrong, 5);
            refused("no name", x, 0, 0, wrong);
        }
        refused("no file", x, 4, 0, 5);
        refused("no definition", x, 0, 4, 5);
        refused("no definition", x, 2, 0, 5);
        refused("its references would go to the inner one", x, 0, 0, 2);
        refused("it would catch the inner references", x, 0, 1, 1);
        refused("an unresolved reference would have a target", x, 0, 0, 9);
        refused("one more duplicate", x, 0, 0, 4);
        refused("one duplicate less", x, 0, 2, 5);
        refused("one duplicate less", x, 0, 3, 5);
        refused("it would hide the import of file 3", x, 0, 0, 9);
        refused("file 1's reference would go to file 0", x, 3, 0, 1);
        x.put(1, 3, 1, 2);
        A.due("now nothing refers to it", x.rename(3, 0, 6), true);
        refused("the unresolved one of file 1 would have a target", x, 3, 0, 2);
        refused("the unresolved one of file 0 would have a target", x, 0, 0, 2);
        A.due("a scope is not imported", x.rename(3, 1, 2), true);
        x.put(3, 3, 1, 0);
        refused("no sentence", x, 3, 0, 5);
        A.due("the same number of duplicates", x.duplicates(0), 1);

        // A duplicate that goes from one name's duplicates to another's: the number stays.
        x = Desks.built(Desks.BLOCKS);
        Desks.append(x, 2, "0.1 0.1 0.2");
        A.due("duplicate of 1 to duplicate of 2", x.rename(2, 1, 2), true);
        A.due("still one", x.duplicates(2), 1);
        text(x, "duplicate", 2, "0.1 0.2 0.2");
        x.put(2, 3, 1, 2);
        refused("the reference would go to definition 2", x, 2, 1, 1);
        refused("definition 0 would be the first 2", x, 2, 0, 2);

        // The very first token counts too.
        x = Desks.built(Desks.BLOCKS);
        Desks.append(x, 0, "1.1 0.2");
        refused("the unresolved first token would have a target", x, 0, 0, 1);
        x.put(0, 0, 1, 2);
        A.due("the first token refers to it", x.rename(0, 0, 3), true);
        text(x, "first token", 0, "1.3 0.3");

        // A reference from another file alone can forbid it.
        x = Desks.built(Desks.BLOCKS);
        Desks.append(x, 0, "0.1 0.2");
        Desks.append(x, 1, "4.0 4.2 1.3 2.0 0.5 1.1 3.0");
        Desks.append(x, 2, "0.3");
        refused("file 1 finds 3 in file 2", x, 0, 1, 3);
        refused("file 1 has 5 in the scope of its reference", x, 0, 0, 5);
        A.due("free", x.rename(0, 0, 7), true);
        text(x, "free", 1, "4.0 4.2 1.3 2.0 0.5 1.7 3.0");
    }

    /** Promises 6 and 11 to 16 in four texts of twenty tokens. */
    private static void fullTexts() {
        LanguageDesk x = Desks.built(Desks.BLOCKS);
        for (int file = 0; file < 4; file++) {
            for (int at = 0; at < 20; at++) {
                x.put(file, at, 0, at % 16);
            }
        }
        for (int file = 0; file < 4; file++) {
            A.due("all tokens define", x.definitions(file), 20);
            A.due("no token refers", x.references(file), 0);
            A.due("names 0 to 3 again", x.duplicates(file), 4);
            A.due("delete", x.delete(file, 0), true);
            A.due("one less", x.definitions(file), 19);
            A.due("the last moved up", x.token(file, 18), 3);
            A.due("nothing behind it", x.token(file, 19), -1);
            A.due("names 1 to 3 again", x.duplicates(file), 3);
            A.due("append", x.put(file, 19, 1, 3), true);
            A.due("the last refers", x.references(file), 1);
            A.due("to the first of its name", x.target(file, 0), 32 * file + 2);
        }
        A.due("rename", x.rename(3, 18, 1), true);
        A.due("rename", x.rename(3, 2, 14), false);
        A.due("all resolved", x.unresolved(), 0);

        x = Desks.built(Desks.BLOCKS);
        for (int at = 0; at < 19; at++) {
            x.put(3, at, 0, 1);
            x.put(0, at, 1, 2);
        }
        x.put(3, 19, 0, 2);
        x.put(0, 19, 4, 7);
        A.due("last token of the last file", x.target(0, 0), 96 + 19);
        A.due("last token of the last file", x.target(0, 18), 96 + 19);
        A.due("rename", x.rename(3, 19, 15), true);
        A.due("the definition", x.token(3, 19), 15);
        A.due("its last reference", x.token(0, 18), 31);
        A.due("the import", x.token(0, 19), 71);
    }

    /** Promise 17. */
    private static void restart() {
        LanguageDesk x = new LanguageDesk();
        x.restart();
        newObject(x, "restarted new object");
        x.restart();
        newObject(x, "restarted again");

        x = Desks.entered("0 : 1", "1 : R2");
        x.build();
        x.restart();
        newObject(x, "restarted before it was built");

        x = Desks.built(Desks.BLOCKS);
        for (int file = 0; file < 4; file++) {
            Desks.append(x, file, "0.1 0.1 1.1 2.0 1.2 3.0 4.1");
        }
        x.restart();
        newObject(x, "restarted after edits");

        x = Desks.built(Desks.BLOCKS);
        Desks.append(x, 0, "3.0");
        Desks.append(x, 1, "2.0 0.1 1.1 3.0 1.1");
        x.restart();
        Desks.enter(x, "0 : 1 R0", "0 :");
        A.due("build", x.build(), LanguageDesk.OK);
        Desks.append(x, 1, "1.0 1.0 1.0");
        A.due("no definitions left", x.definitions(1), 0);
        A.due("no references left", x.unresolved(), 0);
        A.due("no scope left", x.scope(1, 1), -1);
        A.due("other grammar", x.expected(1, 3), 1024 + 2);
        A.due("production numbers anew", x.production(0, true), -1);
        x.restart();
        for (int number = 0; number < 14; number++) {
            A.due("fourteen again", x.production(5, false), number);
        }
    }

    /** Promise 17: no production of the grammar before counts. */
    private static void restartForgetsProductions() {
        LanguageDesk x = Desks.built("0 : 4", "1 : 2", "1 : 3", "2 : R1 2");
        x.restart();
        Desks.enter(x, "0 : R1 3", "1 : 2", "1 :");
        A.due("2 follows rule 1 no more", x.build(), LanguageDesk.OK);

        x = Desks.built("0 : 4", "1* : 2d", "1* : 5d", "1* : 3d");
        x.restart();
        Desks.enter(x, "0 : R1 3", "1 : 2", "1 :");
        A.due("build", x.build(), LanguageDesk.OK);
        Desks.append(x, 0, "3.1");
        A.due("rule 1 is empty here", x.errorAt(0), -1);
        A.due("not the role it had", x.definitions(0), 0);
        A.due("not the scope it had", x.scope(0, 0), -1);
        Desks.append(x, 1, "2.1 3.1");
        A.due("not the role it had", x.definitions(1), 0);
        A.due("not the scope it had", x.scope(1, 0), -1);
        x.restart();
        Desks.enter(x, "1 : 2", "0 : R1");
        A.due("rule 1 alone of all rules but 0", x.build(), LanguageDesk.OK);
    }
}
