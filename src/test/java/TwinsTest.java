import java.util.function.Consumer;

/** The boundary tests trust Twins to tell when something changed; here it must tell. */
public final class TwinsTest {
    private static final Answers A = new Answers();
    private static final Twins TWINS = new Twins(A);

    public static void main(String[] args) {
        A.test("one production more", TwinsTest::productions);
        A.test("another symbol, role or scope", TwinsTest::symbols);
        A.test("built or not", TwinsTest::built);
        A.test("another token", TwinsTest::tokens);
        A.close();
    }

    private static Consumer<LanguageDesk> grammar(String... productions) {
        return x -> Desks.enter(x, productions);
    }

    private static void productions() {
        for (int n = 0; n < 6; n++) {
            int rule = n;
            TWINS.different("one production more", States.NEW, x -> x.production(rule, false));
            TWINS.different("one production more", States.ENTERED, States.ENTERED.andThen(x -> x.production(rule, true)));
        }
    }

    private static void symbols() {
        Consumer<LanguageDesk> plain = grammar("0 : R1 R0", "0 :", "1 : 1 2");
        TWINS.same("the same", plain, grammar("0 : R1 R0", "0 :", "1 : 1 2"));
        TWINS.different("a role", plain, grammar("0 : R1 R0", "0 :", "1 : 1 2d"));
        TWINS.different("a role", plain, grammar("0 : R1 R0", "0 :", "1 : 1r 2"));
        TWINS.different("a scope", plain, grammar("0 : R1 R0", "0 :", "1* : 1 2"));
        TWINS.different("a terminal", plain, grammar("0 : R1 R0", "0 :", "1 : 1 3"));
        TWINS.different("a terminal more", plain, grammar("0 : R1 R0", "0 :", "1 : 1 2 2"));
        TWINS.different("a rule more", plain, grammar("0 : R1 R0", "0 :", "1 : 1 2 R0"));
        TWINS.different("the order", plain, grammar("0 : R1 R0", "0 :", "1 : 2 1"));
        for (int s = 0; s < 16; s++) {
            int symbol = s;
            TWINS.different("a symbol more", States.ENTERED, States.ENTERED.andThen(x -> x.symbol(symbol, 0)));
            TWINS.different("a symbol more", States.FOURTEEN, States.FOURTEEN.andThen(x -> x.symbol(symbol, 0)));
        }
    }

    private static void built() {
        TWINS.different("built", States.BUILT, States.ENTERED);
        TWINS.different("built", States.NEW, States.BUILT);
    }

    private static void tokens() {
        for (int file = 0; file < 4; file++) {
            int in = file;
            for (int i = 0; i < States.LENGTHS[file]; i++) {
                int at = i;
                TWINS.different("a token", States.TEXTS, States.TEXTS.andThen(x -> x.put(in, at, 8, 8)));
                TWINS.different("a token less", States.TEXTS, States.TEXTS.andThen(x -> x.delete(in, at)));
            }
            TWINS.different("a token more", States.BUILT, States.BUILT.andThen(x -> x.put(in, 0, 0, 0)));
        }
        TWINS.different("a name", States.TEXTS, States.TEXTS.andThen(x -> x.rename(0, 0, 12)));
    }
}
