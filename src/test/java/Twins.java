import java.util.IdentityHashMap;
import java.util.List;
import java.util.Map;
import java.util.function.Consumer;
import java.util.function.Function;
import java.util.function.Predicate;
import java.util.function.ToIntFunction;

/**
 * Shows that a call changed nothing: two new objects are led through the same run, one of them through the call too; then both
 * are asked everything that can be asked, and both are led on to show what can't be asked at once.
 *
 * Each group of questions has objects of its own, since an object is good for 512 calls: a run has 180 at most, and a group 330.
 */
final class Twins {
    private static final List<Function<LanguageDesk, String>> GROUPS = List.of(Twins::texts, Twins::parses, Twins::links,
        Twins::renames, Twins::edits, Twins::grows, Twins::walks);

    /** What objects answer after a run, so that each of many calls refused after it is compared at the cost of one object. */
    private final Map<Consumer<LanguageDesk>, String[]> known = new IdentityHashMap<>();
    private final Answers answers;

    Twins(Answers answers) {
        this.answers = answers;
    }

    /** The call answers false after the run, and nothing changes. */
    void refused(String call, Consumer<LanguageDesk> run, Predicate<LanguageDesk> refused) {
        changesNothing(call, run, desk -> refused.test(desk) ? 1 : 0, 0);
    }

    /** The call answers as due after the run, and nothing changes. */
    void changesNothing(String call, Consumer<LanguageDesk> run, ToIntFunction<LanguageDesk> asked, int want) {
        LanguageDesk desk = new LanguageDesk();
        run.accept(desk);
        answers.due(call, asked.applyAsInt(desk), want);
        answers.due(call + " again", asked.applyAsInt(desk), want);
        compare(call + " changes nothing", all(after -> {
            run.accept(after);
            asked.applyAsInt(after);
        }), known.computeIfAbsent(run, Twins::all));
    }

    /** After one run as after the other. */
    void same(String what, Consumer<LanguageDesk> one, Consumer<LanguageDesk> other) {
        compare(what, all(one), all(other));
    }

    /** After one run not as after the other: the questions would tell. */
    void different(String what, Consumer<LanguageDesk> one, Consumer<LanguageDesk> other) {
        answers.due(what, String.join("/", all(one)).equals(String.join("/", all(other))), false);
    }

    private void compare(String what, String[] got, String[] want) {
        for (int group = 0; group < got.length; group++) {
            if (!got[group].equals(want[group])) {
                System.out.println("answers  " + got[group]);
                System.out.println("due are  " + want[group]);
            }
            answers.due(what + ", questions " + group, got[group].equals(want[group]), true);
        }
    }

    private static String[] all(Consumer<LanguageDesk> run) {
        String[] answers = new String[GROUPS.size()];
        for (int group = 0; group < answers.length; group++) {
            LanguageDesk desk = new LanguageDesk();
            run.accept(desk);
            answers[group] = GROUPS.get(group).apply(desk);
        }
        return answers;
    }

    private static String texts(LanguageDesk desk) {
        StringBuilder all = new StringBuilder("texts");
        for (int file = -1; file <= 4; file++) {
            all.append(" |").append(desk.errorAt(file));
            for (int at = -1; at <= 20; at++) {
                all.append(' ').append(desk.token(file, at));
            }
        }
        return all.toString();
    }

    private static String parses(LanguageDesk desk) {
        StringBuilder all = new StringBuilder("parses");
        for (int file = 0; file < 4; file++) {
            for (int at = 0; at <= 21; at++) {
                all.append(' ').append(desk.expected(file, at)).append('@').append(desk.scope(file, at));
            }
        }
        return all.toString();
    }

    private static String links(LanguageDesk desk) {
        StringBuilder all = new StringBuilder("links " + desk.unresolved());
        for (int file = 0; file < 4; file++) {
            all.append(counts(desk, file));
            for (int k = 0; k <= 20; k++) {
                all.append(' ').append(desk.target(file, k));
            }
        }
        return all.toString();
    }

    private static String counts(LanguageDesk desk, int file) {
        return " |" + desk.definitions(file) + " " + desk.references(file) + " " + desk.duplicates(file);
    }

    private static String renames(LanguageDesk desk) {
        StringBuilder all = new StringBuilder("renames");
        for (int file = 0; file < 4; file++) {
            for (int d = 0; d < 4; d++) {
                for (int name = 1; name < 16; name += 7) {
                    all.append(' ').append(desk.rename(file, d, name));
                }
            }
        }
        return all + " " + texts(desk);
    }

    /** Takes two tokens out of each text and fills it up, so that what lies behind the texts' ends would come to light. */
    private static String edits(LanguageDesk desk) {
        StringBuilder all = new StringBuilder("edits");
        for (int file = 0; file < 4; file++) {
            all.append(' ').append(desk.delete(file, 3)).append(' ').append(desk.delete(file, 0));
            int at = length(desk, file);
            while (desk.put(file, at, at % 2, at % 3)) {
                at++;
            }
            all.append(' ').append(at).append(counts(desk, file));
        }
        return all + " " + desk.unresolved() + " " + texts(desk);
    }

    private static int length(LanguageDesk desk, int file) {
        int at = 0;
        while (desk.token(file, at) >= 0) {
            at++;
        }
        return at;
    }

    /** Fills up the production begun last, then the grammar. */
    private static String grows(LanguageDesk desk) {
        StringBuilder all = new StringBuilder("grows");
        for (int i = 0; i < 5; i++) {
            all.append(' ').append(desk.symbol(9, 1));
        }
        for (int i = 0; i < 15; i++) {
            all.append(' ').append(desk.production(i % 6, true)).append(' ').append(desk.symbol((i + 5) % 10, 0));
        }
        return all + walks(desk);
    }

    /** Builds the grammar and goes on with each text by what may come next: that shows its productions, roles and scopes. */
    private static String walks(LanguageDesk desk) {
        StringBuilder all = new StringBuilder("walks " + desk.build());
        for (int file = 0; file < 4; file++) {
            all.append(" |").append(walk(desk, file)).append(counts(desk, file)).append(' ').append(desk.errorAt(file));
        }
        for (int at = 0; at < 20; at++) {
            all.append(' ').append(desk.scope(2, at));
        }
        return all + " " + desk.unresolved();
    }

    /** Ends where the text may end, in file 0 at once, in the others after some tokens. */
    private static String walk(LanguageDesk desk, int file) {
        StringBuilder all = new StringBuilder();
        int at = length(desk, file);
        for (int step = 0; step < 20; step++) {
            int mask = desk.expected(file, at);
            all.append(' ').append(mask);
            if (mask <= 0 || mask == 1024 || (mask & 1024) != 0 && step >= 4 * file) {
                return all.toString();
            }
            desk.put(file, at, oneOf(mask & 1023, step + file), step % 3);
            at++;
        }
        return all.toString();
    }

    private static int oneOf(int mask, int number) {
        int left = mask;
        for (int i = number % Integer.bitCount(mask); i > 0; i--) {
            left &= left - 1;
        }
        return Integer.numberOfTrailingZeros(left);
    }
}
