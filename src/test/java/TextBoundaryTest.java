import java.util.function.Consumer;

/** The boundary cases of promises 5 to 9, each sentence that names one with a test of its own. */
public final class TextBoundaryTest {
    private static final int MIN = Integer.MIN_VALUE, MAX = Integer.MAX_VALUE;

    /** The shortest sentence has 1024 tokens. */
    private static final String[] LONG = {"0 : R1 R1 R1 R1", "1 : R2 R2 R2 R2", "2 : R3 R3 R3 R3", "3 : R4 R4 R4 R4",
        "4 : R5 R5 R5 R5", "5 : 7"};
    private static final String[] BRACKETS = {"0 : 1 R1 2", "1 : 3 R1", "1 :"};

    private static final Answers A = new Answers();
    private static final Twins TWINS = new Twins(A);

    public static void main(String[] args) {
        A.test("5: false if the grammar is not built", TextBoundaryTest::putWhenNotBuilt);
        A.test("5: false if file is not 0..3", TextBoundaryTest::putInNoFile);
        A.test("5: false if at is below 0 or above the length", TextBoundaryTest::putAtNoPosition);
        A.test("5: false if kind is not 0..9", TextBoundaryTest::putOfNoKind);
        A.test("5: false if value is not 0..15", TextBoundaryTest::putOfNoValue);
        A.test("5: false if the text would get 21 tokens", TextBoundaryTest::putInFullText);
        A.test("5: several reasons to refuse", TextBoundaryTest::putWithAllWrong);
        A.test("5: a full text's tokens can be replaced", TextBoundaryTest::putReplacesInFullText);
        A.test("5: appends if at is the length", TextBoundaryTest::putAppendsAtLength);
        A.test("5: replaces if at is below the length", TextBoundaryTest::putReplacesBelowLength);
        A.test("5: every kind and value within the bounds", TextBoundaryTest::putOfEveryKindAndValue);
        A.test("5: a put changes one file", TextBoundaryTest::putLeavesOtherFiles);

        A.test("6: false if there is no such file", TextBoundaryTest::deleteInNoFile);
        A.test("6: false if there is no such token", TextBoundaryTest::deleteOfNoToken);
        A.test("6: false for an empty text", TextBoundaryTest::deleteInEmptyText);
        A.test("6: false if the grammar is not built, for the texts are empty", TextBoundaryTest::deleteWhenNotBuilt);
        A.test("6: the first, the last and the only token", TextBoundaryTest::deleteAtTheEnds);
        A.test("6: a full text has room again", TextBoundaryTest::deleteInFullText);
        A.test("6: a delete changes one file", TextBoundaryTest::deleteLeavesOtherFiles);

        A.test("7: -1 if there is no such file", TextBoundaryTest::tokenOfNoFile);
        A.test("7: -1 if there is no such token", TextBoundaryTest::tokenOutside);
        A.test("7: -1 if the grammar is not built, for the texts are empty", TextBoundaryTest::tokenWhenNotBuilt);
        A.test("7: the least and the greatest token", TextBoundaryTest::tokenOfLeastAndGreatest);

        A.test("8: -2 if the grammar is not built", TextBoundaryTest::errorWhenNotBuilt);
        A.test("8: -2 if there is no such file", TextBoundaryTest::errorOfNoFile);
        A.test("8: -1 for an empty text that is a sentence", TextBoundaryTest::errorOfEmptySentence);
        A.test("8: 0 for an empty text that is none", TextBoundaryTest::errorOfEmptyText);
        A.test("8: -1 for a full text that is a sentence", TextBoundaryTest::errorOfFullSentence);
        A.test("8: 0 if the first token can't begin a sentence", TextBoundaryTest::errorAtFirstToken);
        A.test("8: the length if a sentence goes on behind the text", TextBoundaryTest::errorBehindText);
        A.test("8: the last token of a full text", TextBoundaryTest::errorAtLastToken);
        A.test("8: sentences of any length count", TextBoundaryTest::errorBeforeLongSentence);
        A.test("8: a token behind a sentence", TextBoundaryTest::errorBehindSentence);

        A.test("9: -1 if the grammar is not built", TextBoundaryTest::expectedWhenNotBuilt);
        A.test("9: -1 if there is no such file", TextBoundaryTest::expectedInNoFile);
        A.test("9: -1 if at is below 0 or above the text's length", TextBoundaryTest::expectedOutside);
        A.test("9: at is 0 or the length", TextBoundaryTest::expectedAtTheEnds);
        A.test("9: no bit if no sentence begins so", TextBoundaryTest::expectedBehindError);
        A.test("9: bits 0 to 10, none and all", TextBoundaryTest::expectedBits);
        A.test("9: bit 10 if the first tokens are a sentence", TextBoundaryTest::expectedEnd);
        A.test("9: behind a full text", TextBoundaryTest::expectedBehindFullText);
        A.test("9: sentences of any length count", TextBoundaryTest::expectedOfLongSentence);
        A.test("9: the first tokens alone count", TextBoundaryTest::expectedLooksBackOnly);

        A.test("7, 8, 9: questions change nothing", TextBoundaryTest::questionsChangeNothing);
        A.close();
    }

    private static void putWhenNotBuilt() {
        for (Consumer<LanguageDesk> run : States.NOT_BUILT) {
            for (int file = 0; file < 4; file++) {
                int in = file;
                TWINS.refused("put when not built", run, x -> x.put(in, 0, 1, 1));
            }
            TWINS.refused("put when not built", run, x -> x.put(MIN, MIN, MIN, MIN));
            TWINS.refused("put when not built", run, x -> x.put(MAX, MAX, MAX, MAX));
        }
    }

    private static void putInNoFile() {
        for (int file : States.outside(0, 3)) {
            for (int at : new int[] {0, 1, 5, 19, 20, -20 * file}) {
                TWINS.refused("put(" + file + ", " + at + ")", States.TEXTS, x -> x.put(file, at, 1, 1));
            }
            TWINS.refused("put(" + file + ", 0)", States.BUILT, x -> x.put(file, 0, 0, 0));
            TWINS.refused("put(" + file + ", 0)", States.FULL_TEXTS, x -> x.put(file, 0, 9, 9));
        }
    }

    private static void putAtNoPosition() {
        for (int file = 0; file < 4; file++) {
            int in = file;
            for (int at : States.outside(0, States.LENGTHS[file])) {
                TWINS.refused("put(" + file + ", " + at + ")", States.TEXTS, x -> x.put(in, at, 1, 1));
            }
            for (int at = States.LENGTHS[file] + 1; at < 80; at++) {
                int above = at;
                TWINS.refused("put(" + file + ", " + at + ")", States.TEXTS, x -> x.put(in, above, 1, 1));
            }
            for (int at = -60; at < 0; at++) {
                int below = at;
                A.due("put(" + file + ", " + at + ")", States.after(States.TEXTS).put(in, below, 1, 1), false);
            }
            TWINS.refused("put(" + file + ", 1) in an empty text", States.BUILT, x -> x.put(in, 1, 0, 0));
        }
    }

    private static void putOfNoKind() {
        for (int kind : States.outside(0, 9)) {
            TWINS.refused("replace by kind " + kind, States.TEXTS, x -> x.put(0, 0, kind, 0));
            TWINS.refused("append kind " + kind, States.TEXTS, x -> x.put(0, 9, kind, 15));
            TWINS.refused("first token of kind " + kind, States.TEXTS, x -> x.put(2, 0, kind, 0));
            TWINS.refused("replace by kind " + kind, States.FULL_TEXTS, x -> x.put(3, 19, kind, 0));
        }
        for (int kind = 10; kind < 16; kind++) {
            int rule = kind;
            TWINS.refused("a rule is no kind", States.TEXTS, x -> x.put(0, 0, rule, 0));
        }
    }

    private static void putOfNoValue() {
        for (int value : States.outside(0, 15)) {
            TWINS.refused("replace by value " + value, States.TEXTS, x -> x.put(0, 0, 0, value));
            TWINS.refused("append value " + value, States.TEXTS, x -> x.put(0, 9, 9, value));
            TWINS.refused("first token of value " + value, States.TEXTS, x -> x.put(2, 0, 0, value));
            TWINS.refused("replace by value " + value, States.FULL_TEXTS, x -> x.put(3, 19, 0, value));
        }
    }

    private static void putInFullText() {
        TWINS.refused("21st token", States.TEXTS, x -> x.put(1, 20, 1, 1));
        for (int file = 0; file < 4; file++) {
            int in = file;
            TWINS.refused("21st token", States.FULL_TEXTS, x -> x.put(in, 20, 9, 15));
            TWINS.refused("22nd token", States.FULL_TEXTS, x -> x.put(in, 21, 0, 0));
            LanguageDesk x = States.after(States.BUILT);
            for (int at = 0; at < 20; at++) {
                A.due("token " + at, x.put(file, at, 0, 0), true);
            }
            A.due("token 20", x.put(file, 20, 0, 0), false);
            A.due("token 20", x.token(file, 20), -1);
            A.due("definitions", x.definitions(file), 20);
        }
    }

    private static void putWithAllWrong() {
        for (int wrong : States.outside(0, 20)) {
            TWINS.refused("put of " + wrong, States.TEXTS, x -> x.put(wrong, wrong, wrong, wrong));
            TWINS.refused("put of " + wrong, States.TEXTS, x -> x.put(0, wrong, wrong, wrong));
            TWINS.refused("put of " + wrong, States.TEXTS, x -> x.put(wrong, 0, 0, wrong));
        }
    }

    private static void putReplacesInFullText() {
        for (int at = 0; at < 20; at++) {
            LanguageDesk x = States.after(States.FULL_TEXTS);
            A.due("replace", x.put(2, at, 7, 5), true);
            A.due("the token", x.token(2, at), 117);
            A.due("the one before", x.token(2, at - 1), at == 0 ? -1 : (at - 1) % 2 * 16 + (at - 1) % 16);
            A.due("the one behind", x.token(2, at + 1), at == 19 ? -1 : (at + 1) % 2 * 16 + (at + 1) % 16);
        }
    }

    private static void putAppendsAtLength() {
        for (int file = 0; file < 4; file++) {
            int length = States.LENGTHS[file];
            LanguageDesk x = States.after(States.TEXTS);
            A.due("append in file " + file, x.put(file, length, 5, 6), length < 20);
            A.due("the token", x.token(file, length), length < 20 ? 86 : -1);
            A.due("nothing behind it", x.token(file, length + 1), -1);
            A.due("one longer", x.expected(file, length + 1), length < 20 ? 0 : -1);
        }
    }

    private static void putReplacesBelowLength() {
        for (int at = 0; at < 9; at++) {
            LanguageDesk x = States.after(States.TEXTS);
            A.due("replace", x.put(0, at, 5, 6), true);
            A.due("the token", x.token(0, at), 86);
            A.due("not longer", x.token(0, 9), -1);
            A.due("not longer", x.expected(0, 10), -1);
            A.due("not shorter", x.token(0, 8) >= 0, true);
            A.due("5 stands in no production", x.errorAt(0), at);
        }
    }

    private static void putOfEveryKindAndValue() {
        for (int kind = 0; kind < 10; kind++) {
            LanguageDesk x = States.after(States.BUILT);
            for (int value = 0; value < 16; value++) {
                A.due("append", x.put(3, value, kind, value), true);
                A.due("token", x.token(3, value), 16 * kind + value);
                A.due("replace", x.put(3, 0, kind, value), true);
                A.due("token", x.token(3, 0), 16 * kind + value);
            }
        }
    }

    private static void putLeavesOtherFiles() {
        for (int file = 0; file < 4; file++) {
            for (int at = 0; at < 20; at += 19) {
                LanguageDesk x = States.after(States.FULL_TEXTS);
                A.due("put", x.put(file, at, 9, 9), true);
                for (int other = 0; other < 4; other++) {
                    A.due("errorAt", x.errorAt(other), other == file ? at : -1);
                    A.due("first token", x.token(other, 0), other == file && at == 0 ? 153 : other % 2 * 16);
                    A.due("last token", x.token(other, 19), other == file && at == 19 ? 153 : (19 + other) % 2 * 16 + 3);
                    A.due("definitions", x.definitions(other), other == file ? 0 : 10);
                }
            }
        }
    }

    private static void deleteInNoFile() {
        for (int file : States.outside(0, 3)) {
            for (int at : new int[] {0, 1, 8, 19, -20 * file}) {
                TWINS.refused("delete(" + file + ", " + at + ")", States.TEXTS, x -> x.delete(file, at));
            }
            TWINS.refused("delete(" + file + ", " + file + ")", States.FULL_TEXTS, x -> x.delete(file, file));
        }
    }

    private static void deleteOfNoToken() {
        for (int file = 0; file < 4; file++) {
            int in = file;
            for (int at : States.outside(0, States.LENGTHS[file] - 1)) {
                TWINS.refused("delete(" + file + ", " + at + ")", States.TEXTS, x -> x.delete(in, at));
            }
            for (int at = States.LENGTHS[file]; at < 80; at++) {
                int above = at;
                TWINS.refused("delete(" + file + ", " + at + ")", States.TEXTS, x -> x.delete(in, above));
            }
            for (int at = -60; at < 0; at++) {
                A.due("delete(" + file + ", " + at + ")", States.after(States.FULL_TEXTS).delete(file, at), false);
            }
            TWINS.refused("delete(" + file + ", 20)", States.FULL_TEXTS, x -> x.delete(in, 20));
        }
    }

    private static void deleteInEmptyText() {
        for (int file = 0; file < 4; file++) {
            for (int at : new int[] {MIN, -1, 0, 1, 19, 20, MAX}) {
                int in = file;
                TWINS.refused("delete(" + file + ", " + at + ")", States.BUILT, x -> x.delete(in, at));
            }
        }
        TWINS.refused("delete in the emptied text", States.TEXTS.andThen(x -> {
            for (int i = 0; i < 5; i++) {
                x.delete(3, 0);
            }
        }), x -> x.delete(3, 0));
    }

    private static void deleteWhenNotBuilt() {
        for (Consumer<LanguageDesk> run : States.NOT_BUILT) {
            for (int file = -1; file <= 4; file++) {
                int in = file;
                TWINS.refused("delete when not built", run, x -> x.delete(in, 0));
            }
            TWINS.refused("delete when not built", run, x -> x.delete(MIN, MIN));
            TWINS.refused("delete when not built", run, x -> x.delete(MAX, MAX));
        }
    }

    private static void deleteAtTheEnds() {
        LanguageDesk x = States.after(States.TEXTS);
        A.due("the first", x.delete(3, 0), true);
        A.due("the second is the first", Desks.text(x, 3).equals("0.1 1.1 3.0 3.0"), true);
        A.due("the last", x.delete(3, 3), true);
        A.due("the last is gone", Desks.text(x, 3).equals("0.1 1.1 3.0"), true);
        A.due("no such token any more", x.delete(3, 3), false);
        A.due("the last", x.delete(3, 2), true);
        A.due("the first", x.delete(3, 0), true);
        A.due("the only one", x.delete(3, 0), true);
        A.due("empty", Desks.text(x, 3).isEmpty(), true);
        A.due("empty", x.expected(3, 1), -1);
        A.due("empty", x.errorAt(3), -1);
    }

    private static void deleteInFullText() {
        for (int at = 0; at < 20; at++) {
            LanguageDesk x = States.after(States.FULL_TEXTS);
            A.due("delete", x.delete(0, at), true);
            for (int i = 0; i < 19; i++) {
                int was = i < at ? i : i + 1;
                A.due("token " + i, x.token(0, i), was % 2 * 16 + was % 16);
            }
            A.due("nineteen", x.token(0, 19), -1);
            A.due("room again", x.put(0, 19, 1, 1), true);
            A.due("full again", x.put(0, 20, 1, 1), false);
        }
    }

    private static void deleteLeavesOtherFiles() {
        for (int file = 0; file < 4; file++) {
            LanguageDesk x = States.after(States.FULL_TEXTS);
            x.delete(file, 0);
            for (int other = 0; other < 4; other++) {
                int moved = other == file ? 1 : 0;
                A.due("first token", x.token(other, 0), (other + moved) % 2 * 16 + moved);
                A.due("last token", x.token(other, 19 - moved), (19 + other) % 2 * 16 + 3);
                A.due("definitions and references", x.definitions(other) + x.references(other), 20 - moved);
            }
        }
    }

    private static void tokenOfNoFile() {
        LanguageDesk x = States.after(States.FULL_TEXTS);
        for (int file : States.outside(0, 3)) {
            A.due("token(" + file + ", 0)", x.token(file, 0), -1);
            A.due("token(" + file + ", 19)", x.token(file, 19), -1);
            A.due("token(" + file + ", 20)", x.token(file, 20), -1);
            A.due("token(" + file + ", ..)", x.token(file, -20 * file), -1);
        }
    }

    private static void tokenOutside() {
        for (int file = 0; file < 4; file++) {
            LanguageDesk x = States.after(States.TEXTS);
            LanguageDesk full = States.after(States.FULL_TEXTS);
            for (int at : States.outside(0, States.LENGTHS[file] - 1)) {
                A.due("token(" + file + ", " + at + ")", x.token(file, at), -1);
            }
            for (int at : States.outside(0, 19)) {
                A.due("token(" + file + ", " + at + ")", full.token(file, at), -1);
            }
            for (int at = 20; at < 80; at++) {
                A.due("token(" + file + ", " + at + ")", full.token(file, at), -1);
                A.due("token(" + file + ", -" + at + ")", full.token(file, -at), -1);
            }
        }
    }

    private static void tokenWhenNotBuilt() {
        for (Consumer<LanguageDesk> run : States.NOT_BUILT) {
            LanguageDesk x = States.after(run);
            for (int file = -1; file <= 4; file++) {
                for (int at = -1; at <= 20; at++) {
                    A.due("token", x.token(file, at), -1);
                }
            }
            A.due("token", x.token(MIN, MIN), -1);
            A.due("token", x.token(MAX, MAX), -1);
        }
    }

    private static void tokenOfLeastAndGreatest() {
        for (int file = 0; file < 4; file++) {
            LanguageDesk x = States.after(States.FULL_TEXTS);
            x.put(file, 0, 0, 0);
            x.put(file, 19, 9, 15);
            A.due("kind 0, value 0", x.token(file, 0), 0);
            A.due("kind 9, value 15", x.token(file, 19), 159);
            x.put(file, 0, 9, 0);
            x.put(file, 19, 0, 15);
            A.due("kind 9, value 0", x.token(file, 0), 144);
            A.due("kind 0, value 15", x.token(file, 19), 15);
        }
    }

    private static void errorWhenNotBuilt() {
        for (Consumer<LanguageDesk> run : States.NOT_BUILT) {
            for (int file : new int[] {MIN, -1, 0, 1, 2, 3, 4, MAX}) {
                A.due("errorAt(" + file + ")", States.after(run).errorAt(file), -2);
            }
        }
    }

    private static void errorOfNoFile() {
        for (int file : States.outside(0, 3)) {
            A.due("errorAt(" + file + ")", States.after(States.TEXTS).errorAt(file), -2);
            A.due("errorAt(" + file + ")", States.after(States.BUILT).errorAt(file), -2);
        }
    }

    private static LanguageDesk with(int file, int count, int kind, String... productions) {
        LanguageDesk x = Desks.built(productions);
        for (int at = 0; at < count; at++) {
            x.put(file, at, kind, at % 16);
        }
        return x;
    }

    private static void errorOfEmptySentence() {
        for (int file = 0; file < 4; file++) {
            A.due("errorAt", with(file, 0, 0, "0 :").errorAt(file), -1);
            A.due("errorAt", with(file, 0, 0, "0 : R5 R4", "5 : 1", "5 :", "4 : 2", "4 :").errorAt(file), -1);
            LanguageDesk x = with(file, 1, 0, "0 :");
            A.due("errorAt", x.errorAt(file), 0);
            x.delete(file, 0);
            A.due("errorAt", x.errorAt(file), -1);
        }
    }

    private static void errorOfEmptyText() {
        for (int file = 0; file < 4; file++) {
            A.due("errorAt", with(file, 0, 0, "0 : 0").errorAt(file), 0);
            A.due("errorAt", with(file, 0, 0, LONG).errorAt(file), 0);
            LanguageDesk x = with(file, 1, 0, "0 : 0");
            A.due("errorAt", x.errorAt(file), -1);
            x.delete(file, 0);
            A.due("errorAt", x.errorAt(file), 0);
        }
    }

    private static void errorOfFullSentence() {
        A.due("twenty of one kind", with(3, 20, 9, "0 : 9 R0", "0 :").errorAt(3), -1);
        A.due("four times five", with(0, 20, 4, "0 : R1 R1 R1 R1", "1 : 4 4 R2", "2 : 4 4 4").errorAt(0), -1);
        LanguageDesk x = with(2, 10, 1, "0 : 1 R0 2", "0 :");
        for (int at = 10; at < 20; at++) {
            x.put(2, at, 2, 0);
        }
        A.due("ten within each other", x.errorAt(2), -1);
    }

    private static void errorAtFirstToken() {
        for (int kind = 0; kind < 10; kind++) {
            A.due("kind " + kind, with(1, 1, kind, BRACKETS).errorAt(1), kind == 1 ? 1 : 0);
            A.due("twenty of kind " + kind, with(1, 20, kind, BRACKETS).errorAt(1), kind == 1 ? 1 : 0);
        }
    }

    private static void errorBehindText() {
        for (int length = 1; length <= 20; length++) {
            LanguageDesk x = with(2, length, 3, BRACKETS);
            x.put(2, 0, 1, 0);
            A.due("a beginning of " + length, x.errorAt(2), length);
            A.due("a beginning of " + length, with(2, length, 1, "0 : 1 R0 2", "0 :").errorAt(2), length);
        }
    }

    private static void errorAtLastToken() {
        for (int wrong = 0; wrong < 20; wrong++) {
            LanguageDesk x = with(3, 20, 3, BRACKETS);
            x.put(3, 0, 1, 0);
            x.put(3, wrong, 9, 0);
            A.due("wrong at " + wrong, x.errorAt(3), wrong);
            x = with(3, wrong + 1, 1, "0 : 1 R0", "0 :");
            x.put(3, wrong, 2, 0);
            A.due("wrong at the last, " + wrong, x.errorAt(3), wrong);
        }
    }

    private static void errorBeforeLongSentence() {
        for (int length = 0; length <= 20; length++) {
            A.due("the first " + length + " of 1024", with(0, length, 7, LONG).errorAt(0), length);
        }
        A.due("all of 20", with(0, 20, 7, "0 : R1 R1 R1 R2", "1 : R2 R2 R2", "2 : 7 7").errorAt(0), -1);
        A.due("the first 20 of 21", with(0, 20, 7, "0 : R1 R1 R1 R3", "1 : R2 R2 R2", "2 : 7 7", "3 : 7 7 7").errorAt(0), 20);
    }

    private static void errorBehindSentence() {
        for (int length = 1; length <= 4; length++) {
            LanguageDesk x = with(1, length, 7, "0 : 7");
            A.due(length + " tokens, one is a sentence", x.errorAt(1), length == 1 ? -1 : 1);
        }
        A.due("one token, none is a sentence", with(1, 1, 7, "0 :").errorAt(1), 0);
    }

    private static void expectedWhenNotBuilt() {
        for (Consumer<LanguageDesk> run : States.NOT_BUILT) {
            for (int any : new int[] {MIN, -1, 0, 1, 2, 3, 4, 20, 21, MAX}) {
                A.due("expected(" + any + ", 0)", States.after(run).expected(any, 0), -1);
                A.due("expected(0, " + any + ")", States.after(run).expected(0, any), -1);
            }
        }
    }

    private static void expectedInNoFile() {
        LanguageDesk x = States.after(States.FULL_TEXTS);
        for (int file : States.outside(0, 3)) {
            A.due("expected(" + file + ", 0)", x.expected(file, 0), -1);
            A.due("expected(" + file + ", 20)", x.expected(file, 20), -1);
            A.due("expected(" + file + ", 21)", x.expected(file, 21), -1);
            A.due("expected(" + file + ", ..)", x.expected(file, -21 * file), -1);
        }
    }

    private static void expectedOutside() {
        for (int file = 0; file < 4; file++) {
            LanguageDesk x = States.after(States.TEXTS);
            LanguageDesk full = States.after(States.FULL_TEXTS);
            for (int at : States.outside(0, States.LENGTHS[file])) {
                A.due("expected(" + file + ", " + at + ")", x.expected(file, at), -1);
            }
            for (int at : States.outside(0, 20)) {
                A.due("expected(" + file + ", " + at + ")", full.expected(file, at), -1);
            }
            for (int at = 1; at < 84; at++) {
                A.due("expected(" + file + ", -" + at + ")", full.expected(file, -at), -1);
                A.due("expected(" + file + ", " + at + ")", full.expected(file, at), at <= 20 ? 1024 + 23 : -1);
            }
            A.due("behind an empty text", States.after(States.BUILT).expected(file, 1), -1);
        }
    }

    private static void expectedAtTheEnds() {
        for (int file = 0; file < 4; file++) {
            LanguageDesk x = Desks.built(BRACKETS);
            A.due("an empty text", x.expected(file, 0), 2);
            Desks.append(x, file, "1.0 3.0");
            A.due("the first token", x.expected(file, 0), 2);
            A.due("behind the text", x.expected(file, 2), 12);
            Desks.append(x, file, "2.0");
            A.due("behind a sentence", x.expected(file, 3), 1024);
            x.delete(file, 2);
            A.due("behind the text", x.expected(file, 2), 12);
            A.due("behind its end", x.expected(file, 3), -1);
        }
    }

    private static void expectedBehindError() {
        for (int wrong = 0; wrong < 20; wrong++) {
            LanguageDesk x = with(2, 20, 3, BRACKETS);
            x.put(2, 0, 1, 0);
            x.put(2, wrong, 9, 0);
            for (int at = 0; at <= 20; at++) {
                int want = at > wrong ? 0 : at == 0 ? 2 : 12;
                A.due("wrong at " + wrong + ", expected at " + at, x.expected(2, at), want);
            }
        }
    }

    private static void expectedBits() {
        LanguageDesk x = new LanguageDesk();
        for (int t = 0; t < 10; t++) {
            Desks.enter(x, "0 : " + t + " R0");
        }
        Desks.enter(x, "0 :");
        A.due("build", x.build(), 0);
        A.due("all bits", x.expected(0, 0), 2047);
        for (int at = 0; at < 20; at++) {
            x.put(0, at, at % 10, 0);
        }
        A.due("all bits", x.expected(0, 20), 2047);
        A.due("bit 10 alone", with(0, 0, 0, "0 :").expected(0, 0), 1024);
        for (int t = 0; t < 10; t++) {
            A.due("bit " + t, with(0, 0, 0, "0 : " + t).expected(0, 0), 1 << t);
            A.due("bit " + t + " and bit 10", with(0, 0, 0, "0 : " + t, "0 :").expected(0, 0), 1024 + (1 << t));
            A.due("no bit", with(0, 2, t, "0 : " + t).expected(0, 2), 0);
        }
    }

    private static void expectedEnd() {
        LanguageDesk x = with(1, 20, 6, "0 : 6 6 R0", "0 :");
        for (int at = 0; at <= 20; at++) {
            A.due("expected(1, " + at + ")", x.expected(1, at), at % 2 == 0 ? 1024 + 64 : 64);
        }
        A.due("the text is none, its first token is", with(1, 2, 6, "0 : 6").expected(1, 1), 1024);
    }

    private static void expectedBehindFullText() {
        A.due("a sentence that may go on", with(3, 20, 9, "0 : 9 R0", "0 :").expected(3, 20), 1024 + 512);
        A.due("a sentence that may not", with(3, 20, 9, "0 : R1 R1 R1 R1", "1 : 9 9 9 R2", "2 : 9 9").expected(3, 20), 1024);
        A.due("a beginning", with(3, 20, 9, "0 : 9 R0 8", "0 :").expected(3, 20), 512 + 256);
        A.due("no beginning", with(3, 20, 9, "0 : 9").expected(3, 20), 0);
        A.due("behind the room", with(3, 20, 9, "0 : 9 R0", "0 :").expected(3, 21), -1);
    }

    private static void expectedOfLongSentence() {
        LanguageDesk x = with(0, 20, 7, LONG);
        for (int at = 0; at <= 20; at++) {
            A.due("the first " + at + " of 1024", x.expected(0, at), 128);
        }
    }

    private static void expectedLooksBackOnly() {
        for (int kind = 0; kind < 10; kind++) {
            LanguageDesk x = with(0, 3, kind, BRACKETS);
            A.due("whatever stands there", x.expected(0, 0), 2);
            A.due("whatever stands behind", x.expected(0, 1), kind == 1 ? 12 : 0);
        }
    }

    private static void questionsChangeNothing() {
        for (int any : new int[] {MIN, -1, 0, 1, 2, 3, 4, 19, 20, 21, MAX}) {
            TWINS.same("token", States.TEXTS.andThen(x -> x.token(any, 0)), States.TEXTS);
            TWINS.same("token", States.TEXTS.andThen(x -> x.token(1, any)), States.TEXTS);
            TWINS.same("errorAt", States.TEXTS.andThen(x -> x.errorAt(any)), States.TEXTS);
            TWINS.same("expected", States.TEXTS.andThen(x -> x.expected(any, 0)), States.TEXTS);
            TWINS.same("expected", States.TEXTS.andThen(x -> x.expected(1, any)), States.TEXTS);
            TWINS.same("errorAt", States.ENTERED.andThen(x -> x.errorAt(any)), States.ENTERED);
            TWINS.same("expected", States.ENTERED.andThen(x -> x.expected(any, any)), States.ENTERED);
        }
    }
}
