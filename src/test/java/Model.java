import java.util.ArrayList;
import java.util.HashMap;
import java.util.HashSet;
import java.util.List;
import java.util.Map;
import java.util.Random;
import java.util.Set;
import java.util.TreeMap;

/**
 * The document once more, as plainly as the Java library allows: a text is parsed by asking which rules derive which pieces
 * of it, without any of the sets that build uses, and links go through lists of scopes.
 */
final class Model {
    private static final int END = 10;

    private record Symbol(int s, int role) {
        boolean isRule() {
            return s >= 10;
        }

        int rule() {
            return s - 10;
        }
    }

    private record Production(int rule, boolean scope, List<Symbol> symbols) {
    }

    /** A token of a sentence: its role, and its scopes by size, each as 32 * first + last. */
    private static final class Token {
        int role;
        final TreeMap<Integer, Integer> scopes = new TreeMap<>();

        int innermost() {
            return scopes.isEmpty() ? -1 : scopes.firstEntry().getValue();
        }
    }

    private final List<Production> productions = new ArrayList<>();
    private boolean built = false;
    private final List<List<int[]>> texts = new ArrayList<>();
    private final Map<String, Integer> expectedOf = new HashMap<>();
    private final Map<String, List<Token>> sentenceOf = new HashMap<>();

    Model() {
        restart();
    }

    void restart() {
        productions.clear();
        built = false;
        texts.clear();
        expectedOf.clear();
        sentenceOf.clear();
        for (int file = 0; file < 4; file++) {
            texts.add(new ArrayList<>());
        }
    }

    int production(int n, boolean scope) {
        if (built || n < 0 || n > 5 || productions.size() == 14) {
            return -1;
        }
        productions.add(new Production(n, scope, new ArrayList<>()));
        return productions.size() - 1;
    }

    boolean symbol(int s, int role) {
        if (built || productions.isEmpty() || s < 0 || s > 15 || s < 10 && (role < 0 || role > 3)) {
            return false;
        }
        List<Symbol> symbols = productions.get(productions.size() - 1).symbols();
        return symbols.size() < 4 && symbols.add(new Symbol(s, role));
    }

    int build() {
        if (built) {
            return 1;
        }
        boolean[] derives = deriving();
        Set<Integer> needed = new HashSet<>(Set.of(0));
        for (Production p : productions) {
            needed.add(p.rule());
            p.symbols().stream().filter(Symbol::isRule).forEach(x -> needed.add(x.rule()));
        }
        for (int n = 0; n < 6; n++) {
            if (needed.contains(n) && !derives[n]) {
                return 16 + n;
            }
        }
        List<Set<Integer>> predict = predict();
        for (int q = 0; q < productions.size(); q++) {
            for (int p = 0; p < q; p++) {
                Set<Integer> common = new HashSet<>(predict.get(p));
                common.retainAll(predict.get(q));
                if (productions.get(p).rule() == productions.get(q).rule() && !common.isEmpty()) {
                    return 32 + q;
                }
            }
        }
        built = true;
        return 0;
    }

    private boolean[] deriving() {
        boolean[] derives = new boolean[6];
        boolean changed = true;
        while (changed) {
            changed = false;
            for (Production p : productions) {
                if (!derives[p.rule()] && p.symbols().stream().allMatch(x -> !x.isRule() || derives[x.rule()])) {
                    derives[p.rule()] = true;
                    changed = true;
                }
            }
        }
        return derives;
    }

    private List<Set<Integer>> predict() {
        List<Set<Integer>> follow = follow();
        List<Set<Integer>> all = new ArrayList<>();
        for (Production p : productions) {
            all.add(firstOr(p.symbols(), follow.get(p.rule())));
        }
        return all;
    }

    private List<Set<Integer>> follow() {
        List<Set<Integer>> follow = new ArrayList<>();
        for (int n = 0; n < 6; n++) {
            follow.add(new HashSet<>());
        }
        follow.get(0).add(END);
        boolean changed = true;
        while (changed) {
            changed = false;
            for (Production p : productions) {
                for (int i = 0; i < p.symbols().size(); i++) {
                    if (p.symbols().get(i).isRule()) {
                        List<Symbol> rest = p.symbols().subList(i + 1, p.symbols().size());
                        Set<Integer> more = firstOr(rest, follow.get(p.rule()));
                        changed |= follow.get(p.symbols().get(i).rule()).addAll(more);
                    }
                }
            }
        }
        return follow;
    }

    /** FIRST of the symbols, by asking for each terminal whether they derive a string that begins so. */
    private Set<Integer> firstOr(List<Symbol> symbols, Set<Integer> ifNullable) {
        Set<Integer> found = new HashSet<>();
        for (int t = 0; t < 10; t++) {
            int[] kinds = {t};
            boolean[][][] pieces = pieces(kinds);
            if (begins(symbols, 0, 0, kinds, pieces, beginning(kinds, pieces))) {
                found.add(t);
            }
        }
        if (covers(symbols, 0, 0, 0, new int[0], pieces(new int[0]))) {
            found.addAll(ifNullable);
        }
        return found;
    }

    /** [n][i][j]: rule n derives the kinds from i to before j. */
    private boolean[][][] pieces(int[] kinds) {
        boolean[][][] pieces = new boolean[6][kinds.length + 1][kinds.length + 1];
        boolean changed = true;
        while (changed) {
            changed = false;
            for (Production p : productions) {
                for (int i = 0; i <= kinds.length; i++) {
                    for (int j = i; j <= kinds.length; j++) {
                        if (!pieces[p.rule()][i][j] && covers(p.symbols(), 0, i, j, kinds, pieces)) {
                            pieces[p.rule()][i][j] = true;
                            changed = true;
                        }
                    }
                }
            }
        }
        return pieces;
    }

    /** The symbols from number k on derive the kinds from i to before j. */
    private static boolean covers(List<Symbol> symbols, int k, int i, int j, int[] kinds, boolean[][][] pieces) {
        if (k == symbols.size()) {
            return i == j;
        }
        for (int m = i; m <= j; m++) {
            if (covers(symbols.get(k), i, m, kinds, pieces) && covers(symbols, k + 1, m, j, kinds, pieces)) {
                return true;
            }
        }
        return false;
    }

    private static boolean covers(Symbol symbol, int i, int j, int[] kinds, boolean[][][] pieces) {
        return symbol.isRule() ? pieces[symbol.rule()][i][j] : j == i + 1 && kinds[i] == symbol.s();
    }

    /** [n][i]: rule n derives a string that begins with the kinds from i on. Asked only where all rules derive strings. */
    private boolean[][] beginning(int[] kinds, boolean[][][] pieces) {
        boolean[][] beginning = new boolean[6][kinds.length + 1];
        boolean changed = true;
        while (changed) {
            changed = false;
            for (Production p : productions) {
                for (int i = 0; i <= kinds.length; i++) {
                    if (!beginning[p.rule()][i] && begins(p.symbols(), 0, i, kinds, pieces, beginning)) {
                        beginning[p.rule()][i] = true;
                        changed = true;
                    }
                }
            }
        }
        return beginning;
    }

    private static boolean begins(List<Symbol> symbols, int k, int i, int[] kinds, boolean[][][] pieces, boolean[][] beginning) {
        if (i == kinds.length) {
            return true;
        }
        if (k == symbols.size()) {
            return false;
        }
        Symbol symbol = symbols.get(k);
        if (symbol.isRule() && beginning[symbol.rule()][i]) {
            return true;
        }
        for (int m = i; m <= kinds.length; m++) {
            if (covers(symbol, i, m, kinds, pieces) && begins(symbols, k + 1, m, kinds, pieces, beginning)) {
                return true;
            }
        }
        return false;
    }

    private boolean isFile(int file) {
        return file >= 0 && file < 4;
    }

    private boolean isToken(int file, int at) {
        return isFile(file) && at >= 0 && at < texts.get(file).size();
    }

    boolean put(int file, int at, int kind, int value) {
        if (!built || !isFile(file) || at < 0 || at > texts.get(file).size() || at == 20) {
            return false;
        }
        if (kind < 0 || kind > 9 || value < 0 || value > 15) {
            return false;
        }
        if (at == texts.get(file).size()) {
            texts.get(file).add(null);
        }
        texts.get(file).set(at, new int[] {kind, value});
        return true;
    }

    boolean delete(int file, int at) {
        return isToken(file, at) && texts.get(file).remove(at) != null;
    }

    int token(int file, int at) {
        return isToken(file, at) ? texts.get(file).get(at)[0] * 16 + texts.get(file).get(at)[1] : -1;
    }

    int length(int file) {
        return texts.get(file).size();
    }

    int errorAt(int file) {
        if (!built || !isFile(file)) {
            return -2;
        }
        if (sentence(file) != null) {
            return -1;
        }
        int k = 0;
        while (k < length(file) && (expected(file, k) & 1 << texts.get(file).get(k)[0]) != 0) {
            k++;
        }
        return k;
    }

    int expected(int file, int at) {
        if (!built || !isFile(file) || at < 0 || at > length(file)) {
            return -1;
        }
        StringBuilder key = new StringBuilder();
        for (int i = 0; i < at; i++) {
            key.append(texts.get(file).get(i)[0]);
        }
        return expectedOf.computeIfAbsent(key.toString(), this::expectedBehind);
    }

    private int expectedBehind(String prefix) {
        int mask = pieces(kinds(prefix))[0][0][prefix.length()] ? 1 << END : 0;
        for (int t = 0; t < 10; t++) {
            int[] kinds = kinds(prefix + t);
            boolean[][][] pieces = pieces(kinds);
            mask |= beginning(kinds, pieces)[0][0] ? 1 << t : 0;
        }
        return mask;
    }

    private static int[] kinds(String digits) {
        return digits.chars().map(c -> c - '0').toArray();
    }

    /** The tokens of a file's text with their roles and scopes; null if it is no sentence. */
    private List<Token> sentence(int file) {
        StringBuilder key = new StringBuilder();
        texts.get(file).forEach(token -> key.append(token[0]));
        if (!sentenceOf.containsKey(key.toString())) {
            sentenceOf.put(key.toString(), sentence(kinds(key.toString())));
        }
        return sentenceOf.get(key.toString());
    }

    private List<Token> sentence(int[] kinds) {
        boolean[][][] pieces = pieces(kinds);
        if (!built || !pieces[0][0][kinds.length]) {
            return null;
        }
        List<Token> tokens = new ArrayList<>();
        for (int at = 0; at < kinds.length; at++) {
            tokens.add(new Token());
        }
        derive(0, 0, kinds.length, kinds, pieces, tokens);
        return tokens;
    }

    /** Goes through the derivation of a piece that has tokens. */
    private void derive(int n, int i, int j, int[] kinds, boolean[][][] pieces, List<Token> tokens) {
        for (Production p : productions) {
            if (p.rule() == n && i < j && covers(p.symbols(), 0, i, j, kinds, pieces)) {
                for (int at = i; at < j && p.scope(); at++) {
                    tokens.get(at).scopes.put(j - i, 32 * i + j - 1);
                }
                deriveSymbols(p.symbols(), i, j, kinds, pieces, tokens);
                return;
            }
        }
    }

    private void deriveSymbols(List<Symbol> symbols, int i, int j, int[] kinds, boolean[][][] pieces, List<Token> tokens) {
        int begin = i;
        for (int k = 0; k < symbols.size(); k++) {
            Symbol symbol = symbols.get(k);
            int end = begin;
            while (!covers(symbol, begin, end, kinds, pieces) || !covers(symbols, k + 1, end, j, kinds, pieces)) {
                end++;
            }
            if (symbol.isRule()) {
                derive(symbol.rule(), begin, end, kinds, pieces, tokens);
            } else {
                tokens.get(begin).role = symbol.role();
            }
            begin = end;
        }
    }

    int scope(int file, int at) {
        return isToken(file, at) && sentence(file) != null ? sentence(file).get(at).innermost() : -2;
    }

    /** The positions of a file's tokens that have the role. */
    private List<Integer> withRole(int file, int role) {
        List<Integer> found = new ArrayList<>();
        if (isFile(file) && built && sentence(file) != null) {
            for (int at = 0; at < length(file); at++) {
                if (sentence(file).get(at).role == role) {
                    found.add(at);
                }
            }
        }
        return found;
    }

    int definitions(int file) {
        return withRole(file, 1).size();
    }

    int references(int file) {
        return withRole(file, 2).size();
    }

    int target(int file, int k) {
        if (k < 0 || k >= references(file)) {
            return -2;
        }
        int at = withRole(file, 2).get(k);
        int name = texts.get(file).get(at)[1];
        for (int scope : sentence(file).get(at).scopes.values()) {
            int d = firstDefinition(file, name, scope);
            if (d >= 0) {
                return 32 * file + d;
            }
        }
        int d = firstDefinition(file, name, -1);
        if (d >= 0) {
            return 32 * file + d;
        }
        for (int from : withRole(file, 3)) {
            int other = texts.get(file).get(from)[1] % 4;
            d = firstDefinition(other, name, -1);
            if (d >= 0) {
                return 32 * other + d;
            }
        }
        return -1;
    }

    private int firstDefinition(int file, int name, int scope) {
        List<Integer> all = withRole(file, 1);
        for (int d = 0; d < all.size(); d++) {
            if (texts.get(file).get(all.get(d))[1] == name && sentence(file).get(all.get(d)).innermost() == scope) {
                return d;
            }
        }
        return -1;
    }

    int duplicates(int file) {
        Set<List<Integer>> seen = new HashSet<>();
        int count = 0;
        for (int at : withRole(file, 1)) {
            count += seen.add(List.of(texts.get(file).get(at)[1], sentence(file).get(at).innermost())) ? 0 : 1;
        }
        return count;
    }

    int unresolved() {
        return (int) targets().stream().filter(target -> target == -1).count();
    }

    private List<Integer> targets() {
        List<Integer> all = new ArrayList<>();
        for (int file = 0; file < 4; file++) {
            for (int k = 0; k < references(file); k++) {
                all.add(target(file, k));
            }
        }
        return all;
    }

    boolean rename(int file, int d, int name) {
        if (d < 0 || d >= definitions(file) || name < 0 || name > 15) {
            return false;
        }
        List<Integer> targetsBefore = targets();
        int duplicatesBefore = duplicates(file);
        List<int[]> tokens = new ArrayList<>();
        tokens.add(texts.get(file).get(withRole(file, 1).get(d)));
        for (int other = 0; other < 4; other++) {
            for (int k = 0; k < references(other); k++) {
                if (target(other, k) == 32 * file + d) {
                    tokens.add(texts.get(other).get(withRole(other, 2).get(k)));
                }
            }
        }
        int nameBefore = tokens.get(0)[1];
        tokens.forEach(token -> token[1] = name);
        if (targets().equals(targetsBefore) && duplicates(file) == duplicatesBefore) {
            return true;
        }
        tokens.forEach(token -> token[1] = nameBefore);
        return false;
    }

    /** The kinds of a sentence made at random, or null if it grew past 20 tokens. */
    List<Integer> randomSentence(Random random) {
        List<Integer> kinds = new ArrayList<>();
        List<Integer> open = new ArrayList<>(List.of(10));
        for (int steps = 0; !open.isEmpty(); steps++) {
            if (steps > 400 || kinds.size() > 20) {
                return null;
            }
            int s = open.remove(open.size() - 1);
            if (s < 10) {
                kinds.add(s);
            } else {
                List<Production> choices = productions.stream().filter(p -> p.rule() == s - 10).toList();
                List<Symbol> symbols = choices.get(random.nextInt(choices.size())).symbols();
                for (int i = symbols.size() - 1; i >= 0; i--) {
                    open.add(symbols.get(i).s());
                }
            }
        }
        return kinds.size() > 20 ? null : kinds;
    }
}
