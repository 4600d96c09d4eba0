import java.util.List;
import java.util.function.Consumer;

/** The boundary cases of promise 17, each with a test of its own, and the 512 calls that an object is good for. */
public final class RestartBoundaryTest {
    private static final List<Consumer<LanguageDesk>> STATES = List.of(States.NEW, States.ENTERED, States.FOURTEEN, States.UNPRODUCTIVE,
        States.CONFLICT, States.BUILT, States.TEXTS, States.FULL_TEXTS, States.RESTARTED, RestartBoundaryTest::fullGrammar);

    private static final Answers A = new Answers();
    private static final Twins TWINS = new Twins(A);

    public static void main(String[] args) {
        A.test("17: everything as in a fresh object, from every state", RestartBoundaryTest::asFresh);
        A.test("17: restart twice", RestartBoundaryTest::twice);
        A.test("17: no production is left", RestartBoundaryTest::noProductions);
        A.test("17: no production behind the new ones is left", RestartBoundaryTest::noLaterProductions);
        A.test("17: no symbol, role or scope is left", RestartBoundaryTest::noSymbols);
        A.test("17: not built", RestartBoundaryTest::notBuilt);
        A.test("17: no text is left", RestartBoundaryTest::noTexts);
        A.test("17: no link is left", RestartBoundaryTest::noLinks);
        A.test("17: what a grammar derived is forgotten", RestartBoundaryTest::noSets);
        A.test("512 calls: edits", RestartBoundaryTest::manyEdits);
        A.test("512 calls: restarts", RestartBoundaryTest::manyRestarts);
        A.test("512 calls: refused calls", RestartBoundaryTest::manyRefusedCalls);
        A.test("512 calls: failed builds", RestartBoundaryTest::manyFailedBuilds);
        A.test("512 calls: renames", RestartBoundaryTest::manyRenames);
        A.close();
    }

    /** Fourteen productions of four symbols, all definitions and scopes, built. */
    private static void fullGrammar(LanguageDesk x) {
        for (int number = 0; number < 14; number++) {
            x.production(number % 6, true);
            x.symbol(number / 6, 1);
            for (int i = 0; i < 3; i++) {
                x.symbol(9, 1);
            }
        }
        x.build();
    }

    private static void asFresh() {
        Consumer<LanguageDesk> small = x -> Desks.enter(x, "0 : 1 R0", "0 : 0r R0", "0 :");
        Consumer<LanguageDesk> other = x -> {
            Desks.enter(x, "0 : R1 R2", "1* : 0d", "1 :", "2 : 1r R2", "2 : 9");
            x.build();
            Desks.append(x, 0, "0.1 1.1 1.2 9.0");
            Desks.append(x, 3, "1.1 9.0");
        };
        for (Consumer<LanguageDesk> state : STATES) {
            Consumer<LanguageDesk> restarted = state.andThen(LanguageDesk::restart);
            TWINS.same("after restart", restarted, States.NEW);
            TWINS.same("another grammar after restart", restarted.andThen(small), small);
            TWINS.same("other texts after restart", restarted.andThen(other), other);
            TWINS.same("the same again after restart", restarted.andThen(States.BUILT), States.BUILT);
        }
    }

    private static void twice() {
        for (Consumer<LanguageDesk> state : STATES) {
            TWINS.same("restart twice", state.andThen(LanguageDesk::restart).andThen(LanguageDesk::restart), States.NEW);
        }
        TWINS.same("restart of a new object", LanguageDesk::restart, States.NEW);
    }

    private static LanguageDesk restarted(Consumer<LanguageDesk> state) {
        LanguageDesk x = States.after(state);
        x.restart();
        return x;
    }

    private static void noProductions() {
        for (Consumer<LanguageDesk> state : STATES) {
            LanguageDesk x = restarted(state);
            A.due("symbol", x.symbol(0, 0), false);
            A.due("build", x.build(), 16);
            for (int number = 0; number < 14; number++) {
                A.due("production", x.production(number % 6, false), number);
            }
            A.due("15th production", x.production(0, false), -1);
        }
    }

    /** The productions entered anew are fewer: what lies behind them must not count. */
    private static void noLaterProductions() {
        LanguageDesk x = restarted(y -> Desks.enter(y, "0 : 4", "1 : 2", "1 : 3", "2 : R1 2"));
        Desks.enter(x, "0 : R1 3", "1 : 2", "1 :");
        A.due("2 follows rule 1 no more", x.build(), 0);
        x = restarted(y -> Desks.enter(y, "0 : 4", "1* : 2d", "1* : 5d", "1* : 3d"));
        Desks.enter(x, "0 : R1 3", "1 : 2", "1 :");
        A.due("build", x.build(), 0);
        Desks.append(x, 0, "3.1");
        A.due("3 begins rule 1 no more", x.definitions(0), 0);
        A.due("3 begins rule 1 no more", x.scope(0, 0), -1);
        A.due("3 begins rule 1 no more", x.errorAt(0), -1);
        x = restarted(y -> Desks.enter(y, "0 : 4", "0 : 5", "1 : 2"));
        Desks.enter(x, "0 : R1", "0 : 5");
        A.due("rule 1 has no production any more", x.build(), 17);
    }

    private static void noSymbols() {
        LanguageDesk x = restarted(RestartBoundaryTest::fullGrammar);
        x.production(0, false);
        for (int i = 0; i < 4; i++) {
            A.due("symbol", x.symbol(i, 0), true);
        }
        A.due("fifth symbol", x.symbol(4, 0), false);
        A.due("build", x.build(), 0);
        Desks.append(x, 0, "0.1 1.1 2.1 3.1");
        A.due("sentence", x.errorAt(0), -1);
        A.due("no role is left", x.definitions(0), 0);
        A.due("no scope is left", x.scope(0, 0), -1);
        x = restarted(RestartBoundaryTest::fullGrammar);
        x.production(0, false);
        A.due("build", x.build(), 0);
        A.due("no symbol is left", x.expected(0, 0), 1024);
    }

    private static void notBuilt() {
        for (Consumer<LanguageDesk> state : STATES) {
            LanguageDesk x = restarted(state);
            for (int file = 0; file < 4; file++) {
                A.due("put", x.put(file, 0, 0, 0), false);
                A.due("errorAt", x.errorAt(file), -2);
                A.due("expected", x.expected(file, 0), -1);
            }
            A.due("production", x.production(0, false), 0);
            A.due("symbol", x.symbol(0, 0), true);
            A.due("build", x.build(), 0);
            A.due("build", x.build(), 1);
        }
    }

    private static void noTexts() {
        for (Consumer<LanguageDesk> state : STATES) {
            LanguageDesk x = restarted(state);
            for (int file = 0; file < 4; file++) {
                for (int at = 0; at < 20; at++) {
                    A.due("token", x.token(file, at), -1);
                }
                A.due("delete", x.delete(file, 0), false);
            }
            x.production(0, false);
            x.build();
            for (int file = 0; file < 4; file++) {
                A.due("the empty text", x.errorAt(file), -1);
                A.due("the empty text", x.expected(file, 1), -1);
                A.due("not longer than it was made", x.put(file, 1, 0, 0), false);
            }
        }
    }

    private static void noLinks() {
        for (Consumer<LanguageDesk> state : STATES) {
            LanguageDesk x = restarted(state);
            A.due("unresolved", x.unresolved(), 0);
            for (int file = 0; file < 4; file++) {
                A.due("definitions", x.definitions(file), 0);
                A.due("references", x.references(file), 0);
                A.due("duplicates", x.duplicates(file), 0);
                A.due("target", x.target(file, 0), -2);
                A.due("scope", x.scope(file, 0), -2);
                A.due("rename", x.rename(file, 0, 0), false);
            }
        }
    }

    private static void noSets() {
        LanguageDesk x = Desks.built("0 : R1 5", "1 : 2", "1 :");
        x.restart();
        Desks.enter(x, "0 : R1 6", "1 : 5", "1 :");
        A.due("5 follows rule 1 no more", x.build(), 0);
        A.due("2 begins rule 1 no more", x.expected(0, 0), 32 + 64);
        x.restart();
        Desks.enter(x, "0 : R1");
        A.due("rule 1 derives nothing any more", x.build(), 16);
        Desks.enter(x, "0 : 1");
        A.due("rule 1 derives nothing any more", x.build(), 17);
    }

    /** Fills and empties a text up to the last call. */
    private static void manyEdits() {
        LanguageDesk x = Desks.entered("0 : 0d R0", "0 :");
        A.due("the 5th call", x.build(), 0);
        int length = 0;
        boolean filling = true;
        for (int calls = 5; calls < 510; calls++) {
            if (filling) {
                filling = length < 20;
                A.due("put", x.put(3, length, 0, length % 16), filling);
                length += filling ? 1 : 0;
            } else {
                filling = length == 0;
                A.due("delete", x.delete(3, 0), !filling);
                length -= filling ? 0 : 1;
            }
        }
        A.due("the 511th call", x.definitions(3), length);
        A.due("the 512th call", x.expected(3, length), 1025);
    }

    private static void manyRestarts() {
        LanguageDesk x = new LanguageDesk();
        for (int i = 0; i < 127; i++) {
            A.due("production", x.production(0, true), 0);
            A.due("symbol", x.symbol(i % 10, 1), true);
            A.due("build", x.build(), 0);
            x.restart();
        }
        A.due("the 509th call", x.production(0, false), 0);
        A.due("the 510th call", x.symbol(9, 0), true);
        A.due("the 511th call", x.build(), 0);
        A.due("the 512th call", x.expected(0, 0), 512);
    }

    private static void manyRefusedCalls() {
        LanguageDesk x = States.after(States.FULL_TEXTS);
        for (int i = 0; i < 400; i += 5) {
            A.due("production", x.production(0, true), -1);
            A.due("symbol", x.symbol(0, 0), false);
            A.due("put", x.put(0, 20, 0, 0), false);
            A.due("delete", x.delete(0, 20), false);
            A.due("rename", x.rename(0, 10, 0), false);
        }
        A.due("definitions", x.definitions(0), 10);
        A.due("unresolved", x.unresolved() > 0, true);
    }

    private static void manyFailedBuilds() {
        LanguageDesk x = States.after(States.UNPRODUCTIVE);
        for (int i = 0; i < 480; i++) {
            A.due("build", x.build(), 17);
        }
        A.due("production", x.production(2, false), 3);
        A.due("build", x.build(), 0);
    }

    private static void manyRenames() {
        LanguageDesk x = States.after(States.TEXTS);
        for (int i = 0; i < 360; i++) {
            int name = i % 2 == 0 ? 12 : 1;
            A.due("rename", x.rename(0, 0, name), true);
        }
        A.due("token", x.token(0, 0), 1);
        A.due("rename", x.rename(0, 0, 12), true);
        A.due("its reference", x.token(0, 1), 28);
        A.due("its reference in file 1", x.token(1, 13), 28);
    }
}
