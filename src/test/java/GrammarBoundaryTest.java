import java.util.function.Consumer;

/** The boundary cases of promises 1 to 4, each sentence that names one with a test of its own. */
public final class GrammarBoundaryTest {
    private static final int MIN = Integer.MIN_VALUE, MAX = Integer.MAX_VALUE;
    private static final int[] ANY = {MIN, MIN + 1, -1, 0, 1, 2, 3, 4, 15, 16, 256, MAX - 1, MAX};
    private static final boolean[] BOTH = {false, true};
    private static final Answers A = new Answers();
    private static final Twins TWINS = new Twins(A);

    public static void main(String[] args) {
        A.test("1: a new object has no productions", GrammarBoundaryTest::newHasNoProductions);
        A.test("1: a new object is not built", GrammarBoundaryTest::newIsNotBuilt);
        A.test("1: a new object has four empty texts", GrammarBoundaryTest::newHasEmptyTexts);
        A.test("1: objects have nothing in common", GrammarBoundaryTest::objectsAreApart);

        A.test("2: n is 0..5", GrammarBoundaryTest::productionOfEachRule);
        A.test("2: -1 if the grammar is built", GrammarBoundaryTest::productionWhenBuilt);
        A.test("2: -1 if n is not 0..5", GrammarBoundaryTest::productionOfNoRule);
        A.test("2: -1 if there are 14", GrammarBoundaryTest::productionAfterFourteen);
        A.test("2: thirteen are not too many", GrammarBoundaryTest::productionAfterThirteen);
        A.test("2: a refused production has no number", GrammarBoundaryTest::productionNumbersHaveNoGap);
        A.test("2: a production begins with no symbols", GrammarBoundaryTest::productionBeginsEmpty);
        A.test("2: a scope if scope", GrammarBoundaryTest::productionIsScopeOrNot);

        A.test("3: terminals 0..9 with roles 0..3", GrammarBoundaryTest::symbolOfEachTerminalAndRole);
        A.test("3: rules 10..15; the role is ignored", GrammarBoundaryTest::symbolOfRuleIgnoresRole);
        A.test("3: false if the grammar is built", GrammarBoundaryTest::symbolWhenBuilt);
        A.test("3: false if there is no production", GrammarBoundaryTest::symbolWithoutProduction);
        A.test("3: false if it has 4 symbols", GrammarBoundaryTest::symbolAfterFour);
        A.test("3: false if s is not 0..15", GrammarBoundaryTest::symbolOutside);
        A.test("3: false if s is below 10 and role is not 0..3", GrammarBoundaryTest::symbolWithoutRole);
        A.test("3: appends to the production begun last", GrammarBoundaryTest::symbolGoesToLast);

        A.test("4: BUILT if the grammar is built already", GrammarBoundaryTest::buildWhenBuilt);
        A.test("4: a grammar without productions", GrammarBoundaryTest::buildOfNothing);
        A.test("4: rule 0 counts without a production", GrammarBoundaryTest::buildWithoutRuleZero);
        A.test("4: a rule that has a production and derives nothing", GrammarBoundaryTest::buildWithBarrenProduction);
        A.test("4: a rule that stands in a production and derives nothing", GrammarBoundaryTest::buildWithMissingRule);
        A.test("4: a rule that neither has a production nor stands in one", GrammarBoundaryTest::buildWithoutOtherRules);
        A.test("4: the least such rule", GrammarBoundaryTest::buildTellsLeastRule);
        A.test("4: UNPRODUCTIVE comes before CONFLICT", GrammarBoundaryTest::buildTellsRuleFirst);
        A.test("4: the least such q, 1 to 13", GrammarBoundaryTest::buildTellsLeastProduction);
        A.test("4: productions of one rule", GrammarBoundaryTest::buildLooksAtOneRule);
        A.test("4: END is an element", GrammarBoundaryTest::buildSeesEnd);
        A.test("4: FOLLOW counts only if the production is nullable", GrammarBoundaryTest::buildSeesFollow);
        A.test("4: the empty string is a string", GrammarBoundaryTest::buildOfEmptyString);
        A.test("4: fourteen productions, four symbols each", GrammarBoundaryTest::buildOfFullGrammar);
        A.test("4: not OK, not built", GrammarBoundaryTest::buildRefusedChangesNothing);
        A.test("4: a grammar may be mended", GrammarBoundaryTest::buildAfterMending);
        A.close();
    }

    private static LanguageDesk entered(String... productions) {
        return Desks.entered(productions);
    }

    private static void build(int want, String... productions) {
        A.due("build of " + String.join(", ", productions), entered(productions).build(), want);
    }

    private static void newHasNoProductions() {
        A.due("symbol", new LanguageDesk().symbol(0, 0), false);
        A.due("build", new LanguageDesk().build(), 16);
        LanguageDesk x = new LanguageDesk();
        for (int number = 0; number < 14; number++) {
            A.due("production", x.production(0, false), number);
        }
    }

    private static void newIsNotBuilt() {
        A.due("build", new LanguageDesk().build() != LanguageDesk.BUILT, true);
        for (int file = 0; file < 4; file++) {
            LanguageDesk x = new LanguageDesk();
            A.due("errorAt", x.errorAt(file), -2);
            A.due("expected", x.expected(file, 0), -1);
            A.due("put", x.put(file, 0, 0, 0), false);
        }
    }

    private static void newHasEmptyTexts() {
        LanguageDesk x = new LanguageDesk();
        for (int file = 0; file < 4; file++) {
            for (int at = 0; at < 21; at++) {
                A.due("token", x.token(file, at), -1);
            }
            A.due("delete", x.delete(file, 0), false);
            A.due("definitions", x.definitions(file), 0);
            A.due("references", x.references(file), 0);
            A.due("duplicates", x.duplicates(file), 0);
        }
        A.due("unresolved", x.unresolved(), 0);
        x.production(0, false);
        A.due("build", x.build(), 0);
        for (int file = 0; file < 4; file++) {
            A.due("errorAt", x.errorAt(file), -1);
            A.due("expected", x.expected(file, 0), 1024);
            A.due("expected", x.expected(file, 1), -1);
        }
        A.due("there is no fifth text", x.errorAt(4), -2);
    }

    private static void objectsAreApart() {
        LanguageDesk full = States.after(States.FULL_TEXTS);
        TWINS.same("a new object beside one in use", x -> full.put(0, 0, 0, 0), States.NEW);
        LanguageDesk one = States.after(States.BUILT);
        LanguageDesk other = States.after(States.BUILT);
        one.put(0, 0, 9, 9);
        A.due("token of the other", other.token(0, 0), -1);
        other.restart();
        A.due("token of the one", one.token(0, 0), 153);
    }

    private static void productionOfEachRule() {
        for (int n = 0; n < 6; n++) {
            LanguageDesk x = new LanguageDesk();
            A.due("production(" + n + ")", x.production(n, false), 0);
            A.due("it is of rule " + n, x.build(), n == 0 ? 0 : 16);
            x = entered("0 : 1");
            A.due("production(" + n + ")", x.production(n, false), 1);
            x.symbol(10 + n, 0);
            A.due("it is of rule " + n, x.build(), n == 0 ? 33 : 16 + n);
        }
    }

    private static void productionWhenBuilt() {
        for (boolean scope : BOTH) {
            for (int n = -1; n <= 6; n++) {
                int rule = n;
                TWINS.changesNothing("production when built", States.TEXTS, x -> x.production(rule, scope), -1);
            }
            TWINS.changesNothing("production when built", States.BUILT, x -> x.production(MIN, scope), -1);
            TWINS.changesNothing("production when built", States.FULL_TEXTS, x -> x.production(MAX, scope), -1);
        }
        Consumer<LanguageDesk> full = States.FOURTEEN.andThen(LanguageDesk::build);
        TWINS.changesNothing("production when built of fourteen", full, x -> x.production(0, true), -1);
    }

    private static void productionOfNoRule() {
        for (int n : States.outside(0, 5)) {
            for (boolean scope : BOTH) {
                TWINS.changesNothing("production(" + n + ")", States.NEW, x -> x.production(n, scope), -1);
                TWINS.changesNothing("production(" + n + ")", States.ENTERED, x -> x.production(n, scope), -1);
            }
            TWINS.changesNothing("production(" + n + ")", States.FOURTEEN, x -> x.production(n, true), -1);
        }
    }

    private static void productionAfterFourteen() {
        for (boolean scope : BOTH) {
            for (int n = 0; n < 6; n++) {
                int rule = n;
                TWINS.changesNothing("15th production", States.FOURTEEN, x -> x.production(rule, scope), -1);
            }
        }
        LanguageDesk x = States.after(States.FOURTEEN);
        x.production(0, true);
        A.due("a symbol goes to production 13", x.symbol(14, 0), true);
        A.due("a symbol goes to production 13", x.symbol(14, 0), true);
        A.due("a symbol goes to production 13", x.symbol(14, 0), true);
        A.due("which has four then", x.symbol(14, 0), false);
    }

    private static void productionAfterThirteen() {
        LanguageDesk x = new LanguageDesk();
        for (int number = 0; number < 13; number++) {
            A.due("production", x.production(5, false), number);
        }
        A.due("14th production", x.production(0, false), 13);
        A.due("15th production", x.production(0, false), -1);
        A.due("16th production", x.production(0, false), -1);
    }

    private static void productionNumbersHaveNoGap() {
        LanguageDesk x = new LanguageDesk();
        for (int number = 0; number < 14; number++) {
            A.due("refused", x.production(6, true), -1);
            A.due("refused", x.production(-1, false), -1);
            A.due("production", x.production(number % 6, false), number);
        }
    }

    private static void productionBeginsEmpty() {
        LanguageDesk x = new LanguageDesk();
        x.production(0, false);
        A.due("build", x.build(), 0);
        A.due("only the empty text", x.expected(0, 0), 1024);
        x = entered("1 : 1 2 3 4", "0 :");
        A.due("build", x.build(), 0);
        A.due("only the empty text", x.expected(0, 0), 1024);
    }

    private static void productionIsScopeOrNot() {
        for (int number = 0; number < 14; number++) {
            for (boolean scope : BOTH) {
                LanguageDesk x = new LanguageDesk();
                for (int i = 0; i < 14; i++) {
                    x.production(i == number ? 0 : 1 + i % 5, i == number == scope);
                    x.symbol(i == number ? 9 : i / 5, 0);
                }
                A.due("build", x.build(), 0);
                x.put(3, 0, 9, 0);
                A.due("production " + number + " is a scope: " + scope, x.scope(3, 0), scope ? 0 : -1);
            }
        }
    }

    private static void symbolOfEachTerminalAndRole() {
        for (int s = 0; s < 10; s++) {
            for (int role = 0; role < 4; role++) {
                LanguageDesk x = entered("0 :");
                A.due("symbol(" + s + ", " + role + ")", x.symbol(s, role), true);
                A.due("build", x.build(), 0);
                A.due("terminal " + s, x.expected(0, 0), 1 << s);
                x.put(0, 0, s, 0);
                A.due("terminal " + s, x.errorAt(0), -1);
                A.due("role 1", x.definitions(0), role == 1 ? 1 : 0);
                A.due("role 2", x.references(0), role == 2 ? 1 : 0);
            }
        }
        LanguageDesk x = entered("0 : 0", "0 : 1r", "0 : 2d");
        A.due("symbol(3, 3)", x.symbol(3, 3), true);
        A.due("symbol(4, 2)", x.symbol(4, 2), true);
        A.due("build", x.build(), 0);
        Desks.append(x, 0, "2.0 3.3 4.5");
        A.due("role 3 imports: unresolved", x.target(0, 0), -1);
        Desks.append(x, 3, "2.5 3.0 4.5");
        A.due("role 3 imports: in file 3", x.target(0, 0), 96);
    }

    private static void symbolOfRuleIgnoresRole() {
        for (int n = 0; n < 6; n++) {
            int s = 10 + n;
            Consumer<LanguageDesk> begin = x -> Desks.enter(x, "0 : 0d R1", "1 : 1", "2 : 2", "3 : 3", "4 : 4", "5 : 5", "2* : 6r");
            Consumer<LanguageDesk> plain = begin.andThen(x -> x.symbol(s, 0));
            for (int role : ANY) {
                A.due("symbol(" + s + ", " + role + ")", States.after(begin).symbol(s, role), true);
                TWINS.same("symbol(" + s + ", " + role + ")", begin.andThen(x -> x.symbol(s, role)), plain);
            }
        }
        for (int role : ANY) {
            LanguageDesk x = entered("1 : 7 7", "0 :");
            x.symbol(11, role);
            A.due("build", x.build(), 0);
            Desks.append(x, 0, "7.0 7.0");
            A.due("errorAt", x.errorAt(0), -1);
            A.due("no definition comes of it", x.definitions(0), 0);
            A.due("no reference comes of it", x.references(0), 0);
        }
    }

    private static void symbolWhenBuilt() {
        for (int s = -1; s <= 16; s++) {
            int symbol = s;
            TWINS.refused("symbol(" + s + ") when built", States.TEXTS, x -> x.symbol(symbol, 0));
            TWINS.refused("symbol(" + s + ") when built", States.BUILT, x -> x.symbol(symbol, 3));
        }
        for (int any : ANY) {
            TWINS.refused("symbol(0, " + any + ") when built", States.TEXTS, x -> x.symbol(0, any));
            TWINS.refused("symbol(" + any + ") when built", States.FULL_TEXTS, x -> x.symbol(any, any));
        }
    }

    private static void symbolWithoutProduction() {
        for (int s = -1; s <= 16; s++) {
            int symbol = s;
            TWINS.refused("symbol(" + s + ") of a new object", States.NEW, x -> x.symbol(symbol, 1));
            TWINS.refused("symbol(" + s + ") after restart", States.RESTARTED, x -> x.symbol(symbol, 1));
        }
        for (int any : ANY) {
            TWINS.refused("symbol(" + any + ") of a new object", States.NEW, x -> x.symbol(any, any));
        }
        TWINS.refused("symbol after a refused production", x -> x.production(6, false), x -> x.symbol(0, 0));
    }

    private static void symbolAfterFour() {
        Consumer<LanguageDesk> terminals = x -> Desks.enter(x, "0 :", "1 : 5", "0 : 1d 2r 3i 4");
        Consumer<LanguageDesk> rules = x -> Desks.enter(x, "0 :", "1 : 5", "0 : 1d R1 R1 R1");
        for (int s = -1; s <= 16; s++) {
            int symbol = s;
            TWINS.refused("fifth symbol " + s, terminals, x -> x.symbol(symbol, 1));
            TWINS.refused("fifth symbol " + s, rules, x -> x.symbol(symbol, 2));
        }
        LanguageDesk x = new LanguageDesk();
        for (int number = 0; number < 14; number++) {
            x.production(number % 6, false);
            for (int i = 0; i < 4; i++) {
                A.due("symbol " + i + " of production " + number, x.symbol(i == 0 ? number / 6 : 9, 0), true);
            }
            A.due("fifth symbol of production " + number, x.symbol(9, 0), false);
            A.due("sixth symbol of production " + number, x.symbol(10, 0), false);
        }
        A.due("build", x.build(), 0);
        for (int at = 0; at < 4; at++) {
            x.put(0, at, at == 0 ? 2 : 9, 0);
        }
        A.due("four symbols derive four tokens", x.expected(0, 4), 1024);
    }

    private static void symbolOutside() {
        for (int s : States.outside(0, 15)) {
            for (int role : new int[] {MIN, -1, 0, 3, 4, MAX}) {
                TWINS.refused("symbol(" + s + ", " + role + ")", States.ENTERED, x -> x.symbol(s, role));
            }
            TWINS.refused("symbol(" + s + ", 0)", States.FOURTEEN, x -> x.symbol(s, 0));
            TWINS.refused("symbol(" + s + ", 0)", x -> x.production(0, true), x -> x.symbol(s, 0));
        }
    }

    private static void symbolWithoutRole() {
        for (int role : States.outside(0, 3)) {
            for (int s = 0; s < 10; s++) {
                int symbol = s;
                TWINS.refused("symbol(" + s + ", " + role + ")", States.ENTERED, x -> x.symbol(symbol, role));
            }
            A.due("symbol(10, " + role + ")", States.after(States.ENTERED).symbol(10, role), true);
        }
    }

    private static void symbolGoesToLast() {
        LanguageDesk x = new LanguageDesk();
        x.production(0, false);
        x.production(0, false);
        x.symbol(1, 0);
        A.due("build", x.build(), 0);
        A.due("production 0 is empty", x.expected(0, 0), 1024 + 2);
        x = new LanguageDesk();
        x.production(0, false);
        x.symbol(1, 0);
        x.production(0, false);
        x.symbol(2, 0);
        x.symbol(3, 0);
        A.due("build", x.build(), 0);
        Desks.append(x, 0, "1.0");
        Desks.append(x, 1, "2.0 3.0");
        A.due("production 0 has one symbol", x.errorAt(0), -1);
        A.due("production 1 has two", x.errorAt(1), -1);
    }

    private static void buildWhenBuilt() {
        TWINS.changesNothing("build when built", States.BUILT, LanguageDesk::build, LanguageDesk.BUILT);
        TWINS.changesNothing("build when built", States.TEXTS, LanguageDesk::build, LanguageDesk.BUILT);
        TWINS.changesNothing("build when built", States.FULL_TEXTS, LanguageDesk::build, LanguageDesk.BUILT);
    }

    private static void buildOfNothing() {
        TWINS.changesNothing("build of nothing", States.NEW, LanguageDesk::build, 16);
        TWINS.changesNothing("build of nothing", States.RESTARTED, LanguageDesk::build, 16);
    }

    private static void buildWithoutRuleZero() {
        for (int n = 1; n < 6; n++) {
            build(16, n + " : 1");
            build(16, n + " :");
            build(16, n + " : R0");
        }
    }

    private static void buildWithBarrenProduction() {
        build(16, "0 : R0");
        for (int n = 1; n < 6; n++) {
            build(16 + n, "0 : 1", n + " : R" + n);
            build(16 + n, "0 : 1", n + " : 1 2 3 R" + n);
            build(16 + n, n + " : R" + n + " 1", "0 : 1");
            build(0, "0 : 1", n + " : 2 R" + n, n + " :");
        }
    }

    private static void buildWithMissingRule() {
        for (int n = 1; n < 6; n++) {
            build(16 + n, "0 : 1", "0 : 2 R" + n);
            build(16 + n, "0 : 1", "0 : 2 3 4 R" + n);
            int other = n == 5 ? 4 : 5;
            build(16 + n, "0 : 1", other + " : 1", other + " : R" + n);
        }
        LanguageDesk x = States.after(States.FOURTEEN);
        x.restart();
        for (int number = 0; number < 14; number++) {
            x.production(number / 8, false);
            x.symbol(number % 8, 0);
        }
        x.symbol(9, 0);
        x.symbol(9, 0);
        x.symbol(12, 0);
        A.due("the last symbol of the last production", x.build(), 18);
    }

    private static void buildWithoutOtherRules() {
        build(0, "0 : 1");
        build(0, "0 : 1", "5 : 1");
        build(0, "0 : R5", "5 : 1");
        build(0, "3 :", "0 : R3");
    }

    private static void buildTellsLeastRule() {
        build(16, "5 : R5", "4 : R4", "3 : R3", "2 : R2", "1 : R1", "0 : R0");
        for (int n = 1; n < 6; n++) {
            LanguageDesk x = entered("0 : 0");
            for (int barren = 5; barren >= n; barren--) {
                Desks.enter(x, barren + " : R" + barren);
            }
            for (int fruitful = 1; fruitful < n; fruitful++) {
                Desks.enter(x, fruitful + " : R0");
            }
            A.due("rules " + n + " to 5 derive nothing", x.build(), 16 + n);
        }
        build(17, "0 : 1", "5 : R3", "5 : 1", "3 : R1");
        build(16, "0 : R5", "5 : R1", "1 : R0");
    }

    private static void buildTellsRuleFirst() {
        build(21, "0 : 1", "0 : 1", "5 : R5");
        build(21, "0 : 1", "0 : 1", "4 : R5", "4 : 1");
        build(33, "0 : 1", "0 : 1", "4 : R5", "5 : 1");
        build(16, "1 : 1", "1 : 1");
    }

    /** Fourteen productions without a conflict, but that q has the rule and the terminal of one before it. */
    private static LanguageDesk withTwin(int p, int q) {
        LanguageDesk x = new LanguageDesk();
        for (int i = 0; i < 14; i++) {
            int like = i == q ? p : i;
            x.production(like % 6, false);
            x.symbol(like / 6, 0);
        }
        return x;
    }

    private static void buildTellsLeastProduction() {
        for (int q = 1; q < 14; q++) {
            for (int p = 0; p < q; p++) {
                A.due("productions " + p + " and " + q, withTwin(p, q).build(), 32 + q);
            }
        }
        build(33, "0 : 1", "0 : 1");
        build(33, "0 : 1", "0 : 1", "0 : 1");
        build(34, "0 : 1", "0 : 2", "0 : 2", "0 : 1");
        build(35, "0 : 1", "1 : 1", "2 : 1", "2 : 1", "0 : 1", "1 : 1");
    }

    private static void buildLooksAtOneRule() {
        build(0, "0 : 1", "1 : 1", "2 : 1", "3 : 1", "4 : 1", "5 : 1");
        build(0, "0 :", "1 :", "2 :", "3 :", "4 :", "5 :");
        LanguageDesk x = new LanguageDesk();
        for (int i = 0; i < 14; i++) {
            x.production(i % 6, false);
            x.symbol(i / 6, 0);
        }
        A.due("fourteen without a conflict", x.build(), 0);
    }

    private static void buildSeesEnd() {
        build(33, "0 :", "0 :");
        build(33, "0 :", "0 : R1", "1 :");
        build(35, "0 : 1 R1", "1 : 2", "1 :", "1 : R2", "2 :");
        build(0, "0 : 1 R1", "1 : 2", "1 :");
        // A rule that nothing follows has no common element in two empty productions: END follows rule 0 alone of itself.
        build(0, "0 : 1", "1 :", "1 :");
        build(34, "0 : R1", "1 :", "1 :");
    }

    private static void buildSeesFollow() {
        build(34, "0 : R1 2", "1 : 2", "1 :");
        build(0, "0 : R1 2", "1 : 2", "1 : 3");
        build(34, "0 : R1 R2 2", "1 : 2", "1 :", "2 :");
        build(0, "0 : R1 R2 2", "1 : 2", "1 :", "2 : 3");
        build(33, "0 : 9 R0 9", "0 :");
        build(33, "0 : 0 R0 0", "0 :");
        build(0, "0 : 9 R0 0", "0 :");
        // What follows rule 1 in the first of two places counts as well as in the second.
        build(35, "0 : 0 R1 2", "0 : 5 R1 3", "1 : 2", "1 :");
        build(35, "0 : 0 R1 2", "0 : 5 R1 3", "1 : 3", "1 :");
        build(0, "0 : 0 R1 2", "0 : 5 R1 3", "1 : 4", "1 :");
    }

    private static void buildOfEmptyString() {
        build(0, "0 :");
        build(0, "0 : R1", "1 :");
        build(0, "0 : R1 R1 R1 R1", "1 : R2 R2 R2 R2", "2 :");
        LanguageDesk x = Desks.built("0 :");
        A.due("the empty text is the only sentence", x.expected(0, 0), 1024);
        x.put(0, 0, 0, 0);
        A.due("the empty text is the only sentence", x.errorAt(0), 0);
    }

    private static void buildOfFullGrammar() {
        LanguageDesk x = new LanguageDesk();
        for (int i = 0; i < 14; i++) {
            x.production(i % 6, true);
            x.symbol(i / 6, 1);
            x.symbol(i < 6 ? 9 : 10 + (i + 1) % 6, 2);
            x.symbol(8, 3);
            x.symbol(i < 6 ? 7 : 10 + (i + 2) % 6, 0);
        }
        A.due("build", x.build(), 0);
        Desks.append(x, 0, "2.1 0.1 9.1 8.1 7.1 8.2 0.1 9.1 8.3 7.1");
        A.due("sentence", x.errorAt(0), -1);
        A.due("the last production of rule 1 is number 13", x.expected(0, 0), 7);
        A.due("its own scope", x.scope(0, 0), 9);
        A.due("the scope within", x.scope(0, 4), 32 + 4);
        A.due("the scope at its end", x.scope(0, 9), 32 * 6 + 9);
    }

    private static void buildRefusedChangesNothing() {
        TWINS.changesNothing("build", x -> Desks.enter(x, "0 : R1", "1 : 2 R0"), LanguageDesk::build, 16);
        TWINS.changesNothing("build", x -> Desks.enter(x, "0 : 1", "0 :", "5 : R4 1"), LanguageDesk::build, 20);
        TWINS.changesNothing("build", x -> Desks.enter(x, "0 : 1", "0 : 1d"), LanguageDesk::build, 33);
        TWINS.changesNothing("build", x -> Desks.enter(x, "0 : 1", "1 : R2 3", "1 :", "2 : R1 3"), LanguageDesk::build, 34);
        TWINS.changesNothing("build", States.UNPRODUCTIVE, LanguageDesk::build, 17);
        TWINS.changesNothing("build", States.CONFLICT, LanguageDesk::build, 35);
        TWINS.same("a failed build does not count", States.UNPRODUCTIVE, x -> Desks.enter(x, "0 : 1d R0", "0 :", "1 : R2 1"));
        TWINS.same("a failed build does not count", States.CONFLICT, x -> Desks.enter(x, "0 : 1d R0", "0 :", "1 : 2", "1* : 2"));
    }

    private static void buildAfterMending() {
        LanguageDesk x = States.after(States.UNPRODUCTIVE);
        A.due("production", x.production(2, false), 3);
        A.due("build", x.build(), 0);
        A.due("build", x.build(), 1);
        x = entered("0 : 1", "1 : 2", "0 :");
        A.due("symbol", x.symbol(1, 0), true);
        A.due("build", x.build(), 34);
        A.due("symbol", x.symbol(12, 0), true);
        A.due("build", x.build(), 18);
        A.due("production", x.production(2, false), 3);
        A.due("build", x.build(), 34);
        // FOLLOW is of the grammar as it is now: the empty production takes 5 for what follows rule 1, until it has a symbol.
        x = entered("0 : R1 5", "1 : 5", "1 :");
        A.due("build", x.build(), 34);
        A.due("symbol", x.symbol(6, 0), true);
        A.due("build", x.build(), 0);
    }
}
