import java.util.ArrayList;
import java.util.List;
import java.util.function.Consumer;

/** Runs that lead a new object into the states that the boundary tests begin with, and numbers outside bounds. */
final class States {
    private static final int MIN = Integer.MIN_VALUE, MAX = Integer.MAX_VALUE;

    /** With a factor of 16, 20, 21 or 32, or cut to fewer bits, some of these become numbers that are small. */
    private static final int[] WRAPPING = {256, 257, -256, 65536, 65537, -65536, 1 << 27, 1 << 28, 1 << 30, -(1 << 27), -(1 << 30),
        214748365, 204522253};

    static final Consumer<LanguageDesk> NEW = desk -> { };

    /** Grammar entered, not built; the production begun last has room for three symbols more. */
    static final Consumer<LanguageDesk> ENTERED = desk -> Desks.enter(desk, Desks.BLOCKS);

    /** Fourteen productions, the last of them with one symbol. */
    static final Consumer<LanguageDesk> FOURTEEN = desk -> Desks.enter(desk, "0 : 0d R0", "0 : 1r R0", "0 : 2i R0", "0 : 3 R1 4 R0",
        "0 :", "1* : 0d R1", "1 : 1r R1", "1* : 2i R1", "1 :", "2 : 5", "3 : 6", "4 : 7", "5 : 8", "5 : 9");

    static final Consumer<LanguageDesk> UNPRODUCTIVE = desk -> {
        Desks.enter(desk, "0 : 1d R0", "0 :", "1 : R2 1");
        desk.build();
    };

    static final Consumer<LanguageDesk> CONFLICT = desk -> {
        Desks.enter(desk, "0 : 1d R0", "0 :", "1 : 2", "1* : 2");
        desk.build();
    };

    static final Consumer<LanguageDesk> BUILT = desk -> {
        Desks.enter(desk, Desks.BLOCKS);
        desk.build();
    };

    /** A sentence with links, a full text, an empty one, and one that is no sentence. */
    static final Consumer<LanguageDesk> TEXTS = desk -> {
        BUILT.accept(desk);
        Desks.append(desk, 0, "0.1 1.1 2.0 0.1 1.1 1.2 3.0 4.1 1.7");
        Desks.append(desk, 1, "0.7 0.7 2.0 1.7 0.3 2.0 1.3 0.3 3.0 1.3 3.0 1.9 4.0 1.1 2.0 0.1 0.1 1.1 3.0 0.4");
        Desks.append(desk, 3, "2.0 0.1 1.1 3.0 3.0");
    };

    static final Consumer<LanguageDesk> FULL_TEXTS = desk -> {
        BUILT.accept(desk);
        for (int file = 0; file < 4; file++) {
            for (int at = 0; at < 20; at++) {
                desk.put(file, at, (at + file) % 2, at % 16);
            }
        }
    };

    static final Consumer<LanguageDesk> RESTARTED = desk -> {
        TEXTS.accept(desk);
        desk.restart();
    };

    /** How many tokens the texts have in the state TEXTS. */
    static final int[] LENGTHS = {9, 20, 0, 5};

    static final List<Consumer<LanguageDesk>> NOT_BUILT = List.of(NEW, ENTERED, FOURTEEN, UNPRODUCTIVE, CONFLICT, RESTARTED);

    private States() {
    }

    /** Numbers below low and above high: the nearest ones, the least and the greatest int, and some that wrap around. */
    static int[] outside(int low, int high) {
        List<Integer> all = new ArrayList<>(List.of(MIN, MIN + 1, low - 1, low - 2, high + 1, high + 2, MAX - 1, MAX));
        for (int number : WRAPPING) {
            all.add(number);
            all.add(number + high);
        }
        return all.stream().filter(number -> number < low || number > high).mapToInt(number -> number).distinct().toArray();
    }

    static LanguageDesk after(Consumer<LanguageDesk> run) {
        LanguageDesk desk = new LanguageDesk();
        run.accept(desk);
        return desk;
    }
}
