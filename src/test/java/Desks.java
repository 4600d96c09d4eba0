/**
 * Short ways to fill a desk. A production is written as "1* : 2 3d R0": a rule, a star for a scope, and its symbols, each a
 * terminal with d, r or i for a definition, reference or import, or a rule. A text is written as "0.5 1.7": kinds and values.
 */
final class Desks {
    /** Statements: 0 defines, 1 refers, 2 .. 3 is a scope, 4 imports. */
    static final String[] BLOCKS = {"0 : R1 R0", "0 :", "1 : 0d", "1 : 1r", "1* : 2 R0 3", "1 : 4i"};

    private Desks() {
    }

    static LanguageDesk entered(String... productions) {
        LanguageDesk desk = new LanguageDesk();
        enter(desk, productions);
        return desk;
    }

    static LanguageDesk built(String... productions) {
        LanguageDesk desk = entered(productions);
        int answer = desk.build();
        if (answer != LanguageDesk.OK) {
            System.out.println("build() answered " + answer + " for " + String.join(", ", productions));
            System.exit(1);
        }
        return desk;
    }

    static void enter(LanguageDesk desk, String... productions) {
        for (String production : productions) {
            int colon = production.indexOf(':');
            String head = production.substring(0, colon).trim();
            desk.production(head.charAt(0) - '0', head.endsWith("*"));
            for (String symbol : production.substring(colon + 1).trim().split(" +")) {
                enterSymbol(desk, symbol);
            }
        }
    }

    private static void enterSymbol(LanguageDesk desk, String symbol) {
        if (symbol.isEmpty()) {
            return;
        }
        if (symbol.charAt(0) == 'R') {
            desk.symbol(10 + symbol.charAt(1) - '0', 0);
        } else {
            desk.symbol(symbol.charAt(0) - '0', symbol.length() == 1 ? 0 : 1 + "dri".indexOf(symbol.charAt(1)));
        }
    }

    /** Appends the tokens to the file's text. */
    static void append(LanguageDesk desk, int file, String tokens) {
        if (tokens.isEmpty()) {
            return;
        }
        int at = 0;
        while (desk.token(file, at) >= 0) {
            at++;
        }
        for (String token : tokens.trim().split(" +")) {
            int dot = token.indexOf('.');
            desk.put(file, at, Integer.parseInt(token.substring(0, dot)), Integer.parseInt(token.substring(dot + 1)));
            at++;
        }
    }

    /** The file's text in the form that append takes. */
    static String text(LanguageDesk desk, int file) {
        StringBuilder all = new StringBuilder();
        for (int at = 0; desk.token(file, at) >= 0; at++) {
            int token = desk.token(file, at);
            all.append(at == 0 ? "" : " ").append(token / 16).append('.').append(token % 16);
        }
        return all.toString();
    }
}
