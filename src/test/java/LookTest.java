import java.util.List;
import java.util.function.Supplier;

/** What "all stays as it was" leans on: a look sees each change that a call makes, and no change where there is none. */
public final class LookTest {
    public static void main(String[] args) {
        sees(Villages::some, "set(0, 0, 22)", "set(1, 0, 3)", "set(2, 0, 4)", "set(2, 3, 5)", "set(3, 0, 11)", "set(3, 3, 1)");
        sees(Villages::some, "person(0, 0, 7)", "swap(0, 1)", "swap(2, 3)", "feed(32)", "feed(49)", "text()", "force(0)", "send(0, 1)",
            "day()");
        sees(Villages::some, "film(0, 1, 20)", "film(0, 0, 19)", "film(1, 1, 4)", "film(3, 0, 1)", "image()", "back()");
        sees(Villages::some, "sheet(0, 0, 20)", "sheet(1, 1, 5)", "sheet(2, 2, 3)", "sheet(2, 1, 3)", "sheet(3, 0, 0)",
            "sheet(0, -1, 0)");
        sees(Villages::some, "cell(0, 0, 5)", "cell(0, 19, 5)", "cell(1, 3, 0)", "cell(2, 0, 1)", "cell(2, 1, 1)", "cell(2, 2, 5)");
        sees(Villages::some, "copy(0, 0, 0, 1, 19)", "copy(2, 1, 2, 0, 1)");
        sees(Villages::none, "set(0, 0, 1)", "set(1, 0, 0)", "person(0, 0, 0)", "feed(0)", "day()", "image()", "sheet(3, 0, 0)");
        sees(Villages::fivePeople, "swap(3, 4)", "set(2, 4, 0)", "day()", "cell(0, 0, 7)", "cell(0, 2, 7)");
        sees(Villages::eightLetters, "day()", "set(3, 7, 0)", "person(0, 0, 7)", "cell(3, 0, 5)", "cell(3, 1, 0)", "cell(3, 2, -1)");
        sees(() -> Villages.sixTexts(Villages.SOUND), "force(4)", "feed(32)");
        sees(Villages::fullTape, "text()", "day()");
        sees(Villages::lastDay, "set(0, 0, 998)", "image()");
        for (Supplier<Run> made : List.<Supplier<Run>>of(Villages::some, Villages::none, Villages::fivePeople,
            Villages::eightLetters)) {
            Look.same("nothing", Look.at(made.get()), Look.at(made.get()));
        }
        Due.end();
    }

    private static void sees(Supplier<Run> made, String... calls) {
        List<String> was = Look.at(made.get());
        for (String call : calls) {
            Due.due("a look sees " + call, !Look.at(made.get().does(call)).equals(was));
        }
    }
}
