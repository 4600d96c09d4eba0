import java.util.ArrayList;
import java.util.List;
import java.util.function.Consumer;

/** The boundary cases of promise 16, each sentence that names one with a test of its own. */
public final class RenameBoundaryTest {
    private static final int MIN = Integer.MIN_VALUE, MAX = Integer.MAX_VALUE;

    /** Definitions in the state TEXTS. */
    private static final int[] DEFINITIONS = {2, 7, 0, 0};

    private static final Answers A = new Answers();
    private static final Twins TWINS = new Twins(A);

    public static void main(String[] args) {
        A.test("16: false if there is no such file", RenameBoundaryTest::noFile);
        A.test("16: false if there is no such definition", RenameBoundaryTest::noDefinition);
        A.test("16: false in an empty text", RenameBoundaryTest::emptyText);
        A.test("16: false if the text is no sentence", RenameBoundaryTest::noSentence);
        A.test("16: false if the grammar is not built", RenameBoundaryTest::notBuilt);
        A.test("16: false if name is not 0..15", RenameBoundaryTest::noName);
        A.test("16: false if its own references had another target", RenameBoundaryTest::ownReferences);
        A.test("16: false if another definition's references had another target", RenameBoundaryTest::referencesOfOthers);
        A.test("16: false if an unresolved reference had a target", RenameBoundaryTest::unresolvedReferences);
        A.test("16: false if a reference of another file had another target", RenameBoundaryTest::referencesInOtherFiles);
        A.test("16: false if the file had more duplicates", RenameBoundaryTest::moreDuplicates);
        A.test("16: false if the file had fewer duplicates", RenameBoundaryTest::fewerDuplicates);
        A.test("16: as many duplicates, if other ones", RenameBoundaryTest::otherDuplicates);
        A.test("16: every name 0..15", RenameBoundaryTest::everyName);
        A.test("16: to its own name", RenameBoundaryTest::ownName);
        A.test("16: a definition that nothing refers to", RenameBoundaryTest::withoutReferences);
        A.test("16: only references whose target it is", RenameBoundaryTest::onlyItsReferences);
        A.test("16: only tokens of sentences", RenameBoundaryTest::onlySentences);
        A.test("16: the first and the last definition of a full text", RenameBoundaryTest::firstAndLast);
        A.test("16: references in all files", RenameBoundaryTest::allReferences);
        A.test("16: a reference that would find the name elsewhere only", RenameBoundaryTest::nearMisses);
        A.test("16: true in every case that is not told as false", RenameBoundaryTest::noOtherCaseIsFalse);
        A.close();
    }

    private static Consumer<LanguageDesk> blocks(String... texts) {
        return x -> {
            States.BUILT.accept(x);
            for (int file = 0; file < texts.length; file++) {
                Desks.append(x, file, texts[file]);
            }
        };
    }

    private static void refused(int file, int d, int name, String... texts) {
        TWINS.refused("rename(" + file + ", " + d + ", " + name + ") of " + String.join(" / ", texts), blocks(texts),
            x -> x.rename(file, d, name));
    }

    /** The rename is made, and the texts are then those of the new run. */
    private static void made(int file, int d, int name, Consumer<LanguageDesk> run, Consumer<LanguageDesk> want) {
        String call = "rename(" + file + ", " + d + ", " + name + ")";
        A.due(call, States.after(run).rename(file, d, name), true);
        TWINS.same(call, run.andThen(x -> x.rename(file, d, name)), want);
    }

    private static void noFile() {
        for (int file : States.outside(0, 3)) {
            for (int d : new int[] {MIN, -1, 0, 1, 9, MAX}) {
                TWINS.refused("rename in file " + file, States.FULL_TEXTS, x -> x.rename(file, d, 15));
            }
            TWINS.refused("rename in file " + file, States.TEXTS, x -> x.rename(file, 0, 1));
        }
    }

    private static void noDefinition() {
        for (int file = 0; file < 4; file++) {
            int in = file;
            for (int d : States.outside(0, DEFINITIONS[file] - 1)) {
                TWINS.refused("rename of definition " + d, States.TEXTS, x -> x.rename(in, d, 15));
            }
            for (int d = 10; d < 80; d++) {
                int above = d;
                TWINS.refused("rename of definition " + d, States.FULL_TEXTS, x -> x.rename(in, above, 15));
                A.due("rename of definition -" + d, States.after(States.FULL_TEXTS).rename(file, -d, 15), false);
            }
        }
        refused(0, 0, 5, "1.1 2.0 3.0 4.1");
    }

    private static void emptyText() {
        for (int file = 0; file < 4; file++) {
            int in = file;
            for (int d : new int[] {MIN, -1, 0, 1, MAX}) {
                TWINS.refused("rename in an empty text", States.BUILT, x -> x.rename(in, d, 0));
            }
        }
        refused(0, 0, 5, "", "0.1 1.1");
    }

    private static void noSentence() {
        refused(0, 0, 5, "0.1 1.1 2.0");
        refused(0, 0, 5, "0.1 1.1 3.0");
        refused(0, 0, 5, "0.1 1.1 9.0");
        refused(0, 0, 1, "0.1 1.1 9.0");
        refused(3, 1, 5, "0.1", "0.1", "0.1", "2.0 0.1 0.2 3.0 3.0");
    }

    private static void notBuilt() {
        for (Consumer<LanguageDesk> run : States.NOT_BUILT) {
            for (int any : new int[] {MIN, -1, 0, 1, 2, 3, 4, MAX}) {
                TWINS.refused("rename when not built", run, x -> x.rename(any, 0, 0));
                TWINS.refused("rename when not built", run, x -> x.rename(0, any, any));
            }
        }
    }

    private static void noName() {
        for (int name : States.outside(0, 15)) {
            for (int d = 0; d < 7; d++) {
                int which = d;
                TWINS.refused("rename to " + name, States.TEXTS, x -> x.rename(1, which, name));
            }
            TWINS.refused("rename to " + name, States.TEXTS, x -> x.rename(0, 0, name));
            refused(3, 0, name, "", "", "", "0.1");
            refused(0, 0, name, "0.0 1.0");
            TWINS.refused("no definition, no name", States.TEXTS, x -> x.rename(name, name, name));
        }
    }

    private static void ownReferences() {
        refused(0, 0, 2, "0.1 2.0 0.2 1.1 3.0");
        refused(0, 0, 2, "0.1 2.0 1.1 0.2 3.0");
        refused(0, 0, 2, "2.0 0.1 2.0 1.1 0.2 3.0 3.0");
        refused(0, 1, 2, "2.0 0.2 1.1 3.0 0.1");
        // As many duplicates as before, but the reference would find another first.
        refused(0, 1, 2, "0.2 0.1 1.1 0.1");
        // One of two references would change, the other would not.
        refused(0, 0, 2, "0.1 1.1 2.0 0.2 1.1 3.0");
        refused(0, 0, 2, "0.1 2.0 0.2 1.1 3.0 1.1");
    }

    private static void referencesOfOthers() {
        refused(0, 1, 1, "0.1 2.0 0.2 1.1 3.0");
        refused(0, 1, 1, "0.1 2.0 1.1 0.2 3.0");
        refused(0, 1, 1, "2.0 0.1 2.0 0.2 1.1 3.0 3.0");
        refused(0, 0, 1, "2.0 0.2 1.1 3.0 0.1");
        // It would come before the first of the name: as many duplicates, another target.
        refused(0, 0, 1, "0.2 0.2 0.1 1.1");
        refused(0, 0, 3, "0.1 1.3 4.1", "0.3");
        refused(0, 0, 3, "2.0 0.1 1.3 3.0 4.1", "0.3");
    }

    private static void unresolvedReferences() {
        refused(0, 0, 2, "0.1 1.2");
        refused(0, 0, 2, "1.2 0.1");
        refused(0, 0, 2, "0.1 2.0 1.2 3.0");
        refused(0, 0, 2, "2.0 0.1 2.0 1.2 3.0 3.0");
        refused(1, 0, 2, "1.2 4.1", "0.1");
        refused(3, 1, 2, "", "", "4.7 1.2", "0.1 0.3");
        refused(0, 0, 0, "0.1 1.0");
        refused(0, 0, 15, "0.1 1.15");
    }

    private static void referencesInOtherFiles() {
        // A reference to it would find its own file's definition, or another import's.
        refused(1, 0, 2, "4.1 1.1 0.2", "0.1");
        refused(1, 0, 2, "4.1 2.0 0.2 1.1 3.0", "0.1");
        refused(1, 0, 2, "4.2 4.1 1.1", "0.1", "0.2");
        // A reference to another import's would find it.
        refused(1, 0, 2, "4.1 4.2 1.2", "0.1", "0.2");
        refused(3, 0, 2, "", "4.3 4.2 1.2", "0.2", "0.1");
        // In the first and the last file, at the first and the last position.
        refused(1, 0, 2, "1.2 4.1", "0.1");
        refused(0, 0, 2, "0.1", "", "", "4.0 0.5 0.6 2.0 3.0 2.0 3.0 2.0 3.0 2.0 3.0 2.0 3.0 2.0 3.0 2.0 3.0 2.0 3.0 1.2");
    }

    private static void moreDuplicates() {
        refused(0, 1, 1, "0.1 0.2");
        refused(0, 0, 2, "0.1 0.2");
        refused(3, 2, 1, "", "", "", "0.1 0.1 0.2");
        refused(0, 0, 2, "2.0 0.1 0.2 3.0");
        refused(0, 0, 2, "0.1 2.0 0.3 3.0 0.2");
    }

    private static void fewerDuplicates() {
        refused(0, 0, 2, "0.1 0.1");
        refused(0, 1, 2, "0.1 0.1");
        refused(0, 2, 2, "0.1 0.1 0.1");
        refused(2, 1, 2, "", "", "2.0 0.1 0.1 3.0");
        refused(0, 0, 2, "0.1 2.0 0.1 3.0 0.1");
    }

    private static void otherDuplicates() {
        made(0, 1, 2, blocks("0.1 0.1 0.2"), blocks("0.1 0.2 0.2"));
        made(0, 0, 2, blocks("0.1 0.1 0.2"), blocks("0.2 0.1 0.2"));
        made(0, 1, 2, blocks("0.1 0.1 0.2 1.1"), blocks("0.1 0.2 0.2 1.1"));
        made(0, 1, 2, blocks("0.1 2.0 0.1 3.0"), blocks("0.1 2.0 0.2 3.0"));
        made(0, 1, 1, blocks("0.1 2.0 0.2 3.0"), blocks("0.1 2.0 0.1 3.0"));
        // Another file's duplicates do not count.
        made(0, 0, 2, blocks("0.1", "0.1 0.1 0.2 4.0"), blocks("0.2", "0.1 0.1 0.2 4.0"));
    }

    private static void everyName() {
        for (int from = 0; from < 16; from++) {
            for (int name = 0; name < 16; name++) {
                made(2, 0, name, blocks("", "", "1." + from + " 0." + from), blocks("", "", "1." + name + " 0." + name));
            }
        }
    }

    private static void ownName() {
        Consumer<LanguageDesk> duplicates = blocks("0.1 0.1 1.1");
        for (int d = 0; d < 2; d++) {
            int which = d;
            TWINS.changesNothing("rename to its name", States.TEXTS, x -> x.rename(0, which, 1) ? 1 : 0, 1);
            TWINS.changesNothing("rename to its name", duplicates, x -> x.rename(0, which, 1) ? 1 : 0, 1);
        }
    }

    private static void withoutReferences() {
        made(0, 0, 2, blocks("0.1"), blocks("0.2"));
        made(3, 0, 2, blocks("", "", "1.1", "0.1"), blocks("", "", "1.1", "0.2"));
        made(0, 1, 2, blocks("0.1 2.0 0.1 3.0 1.1"), blocks("0.1 2.0 0.2 3.0 1.1"));
    }

    private static void onlyItsReferences() {
        made(0, 0, 3, blocks("0.1 1.1 2.0 0.1 1.1 3.1 4.1 1.2", "0.1 1.1"), blocks("0.3 1.3 2.0 0.1 1.1 3.1 4.1 1.2", "0.1 1.1"));
        made(0, 1, 3, blocks("0.1 1.1 2.0 0.1 1.1 3.1 4.1 1.2", "0.1 1.1"), blocks("0.1 1.1 2.0 0.3 1.3 3.1 4.1 1.2", "0.1 1.1"));
        made(1, 0, 3, blocks("0.1 1.1 2.1 3.1 4.1 1.2", "0.1 1.1"), blocks("0.1 1.1 2.1 3.1 4.1 1.2", "0.3 1.3"));
        made(1, 0, 3, blocks("4.1 1.1 2.1 3.1 1.2", "0.1 1.1 4.1"), blocks("4.1 1.3 2.1 3.1 1.2", "0.3 1.3 4.1"));
    }

    private static void onlySentences() {
        made(1, 0, 3, blocks("4.1 1.1 3.0", "0.1 1.1"), blocks("4.1 1.1 3.0", "0.3 1.3"));
        made(1, 0, 3, blocks("4.1 1.3 2.0", "0.1 1.1"), blocks("4.1 1.3 2.0", "0.3 1.3"));
    }

    private static void firstAndLast() {
        Consumer<LanguageDesk> full = States.BUILT.andThen(x -> {
            for (int at = 0; at < 20; at++) {
                x.put(3, at, 0, at < 10 ? 1 : 2);
            }
        });
        made(3, 0, 2, full, full.andThen(x -> x.put(3, 0, 0, 2)));
        made(3, 19, 1, full, full.andThen(x -> x.put(3, 19, 0, 1)));
        TWINS.refused("rename of definition 20", full, x -> x.rename(3, 20, 1));
        TWINS.refused("rename of the first", full, x -> x.rename(3, 0, 3));
        TWINS.refused("rename of the last", full, x -> x.rename(3, 19, 3));
    }

    private static Consumer<LanguageDesk> allRefer(int name) {
        return States.BUILT.andThen(x -> {
            for (int file = 0; file < 4; file++) {
                for (int at = 0; at < 19; at++) {
                    x.put(file, at, 1, name);
                }
                x.put(file, 19, file == 2 ? 0 : 4, file == 2 ? name : 14);
            }
        });
    }

    private static void allReferences() {
        made(2, 0, 15, allRefer(4), allRefer(15));
        made(2, 0, 0, allRefer(4), allRefer(0));
        A.due("all have the target", States.after(allRefer(4)).unresolved(), 0);
        A.due("the last of the last file", States.after(allRefer(4)).target(3, 18), 64);
    }

    private static void nearMisses() {
        made(0, 0, 2, blocks("0.1 2.0 0.2 3.0 1.1"), blocks("0.2 2.0 0.2 3.0 1.2"));
        made(0, 1, 1, blocks("0.1 2.0 0.2 3.0 1.1"), blocks("0.1 2.0 0.1 3.0 1.1"));
        made(0, 0, 2, blocks("2.0 0.1 3.0 1.2"), blocks("2.0 0.2 3.0 1.2"));
        made(1, 0, 2, blocks("4.1 1.2", "2.0 0.1 3.0"), blocks("4.1 1.2", "2.0 0.2 3.0"));
        made(1, 0, 2, blocks("4.2 4.1 1.2", "0.1", "0.2"), blocks("4.2 4.1 1.2", "0.2", "0.2"));
        made(1, 0, 2, blocks("4.1 1.2 0.2", "0.1"), blocks("4.1 1.2 0.2", "0.2"));
        made(1, 0, 2, blocks("4.2 1.2", "0.1"), blocks("4.2 1.2", "0.2"));
    }

    /** Every definition to every name: whether it may be is asked of an object that got the new values by hand. */
    private static void noOtherCaseIsFalse() {
        String[][] all = {{"0.1 1.1 2.0 0.2 1.1 1.2 3.0 1.2 4.1 1.3", "0.3 0.2 1.1 4.2", "2.0 0.1 3.0 0.1", "4.0 1.1 4.1 1.3"},
            {"0.1 0.1 1.1 0.2", "4.0 1.1 1.2 1.3", "4.1 4.0 0.3 1.2", "0.1 3.0"},
            {"2.0 0.1 2.0 0.2 1.1 1.2 1.3 3.0 0.3 3.0 0.3 1.1", "1.3 4.0 4.4 0.2 0.2", "", "4.1 1.2 1.3 4.0"},
            {"4.0 1.1 0.1 0.2 0.1", "4.0 4.2 1.2", "0.2 0.3", "4.1 4.2 4.0 1.2 1.3 1.1"}};
        for (String[] texts : all) {
            for (int file = 0; file < 4; file++) {
                for (int d = 0; d < States.after(blocks(texts)).definitions(file); d++) {
                    for (int name = 0; name < 16; name++) {
                        asByHand(file, d, name, texts);
                    }
                }
            }
        }
    }

    private static void asByHand(int file, int d, int name, String... texts) {
        LanguageDesk before = States.after(blocks(texts));
        LanguageDesk byHand = States.after(blocks(texts));
        setValue(byHand, file, 0, d, name);
        for (int other = 0; other < 4; other++) {
            for (int k = 0; k < before.references(other); k++) {
                if (before.target(other, k) == 32 * file + d) {
                    setValue(byHand, other, 1, k, name);
                }
            }
        }
        boolean want = links(before, file).equals(links(byHand, file));
        LanguageDesk x = States.after(blocks(texts));
        String call = "rename(" + file + ", " + d + ", " + name + ") of " + String.join(" / ", texts);
        A.due(call, x.rename(file, d, name), want);
        for (int other = 0; other < 4; other++) {
            A.due(call + " leaves file " + other, Desks.text(x, other).equals(Desks.text(want ? byHand : before, other)), true);
        }
    }

    /** Gives a new value to the token of that kind that has that number among those of its kind. */
    private static void setValue(LanguageDesk x, int file, int kind, int number, int value) {
        int seen = 0;
        for (int at = 0; x.token(file, at) >= 0; at++) {
            if (x.token(file, at) / 16 == kind) {
                if (seen == number) {
                    x.put(file, at, kind, value);
                }
                seen++;
            }
        }
    }

    /** All targets, and the duplicates of one file. */
    private static List<Integer> links(LanguageDesk x, int file) {
        List<Integer> all = new ArrayList<>();
        for (int other = 0; other < 4; other++) {
            for (int k = 0; k < x.references(other); k++) {
                all.add(x.target(other, k));
            }
        }
        all.add(x.duplicates(file));
        return all;
    }
}
