/**
 * Objects on which calls are tried; each is made anew, always by the same calls. Their sheets tell where one of their
 * letters is on the next days, so that a look sees each item.
 */
final class Villages {
    static final String SOUND = "carries 0;softens 1;writes 2;";

    private Villages() {
    }

    /** Something of all that there is: four people, four letters, two texts, a tape, an image, three sheets. */
    static Run some() {
        Run run = Run.of("person(0, 1, 0)", "person(3, 2, 2)", "person(4, 4, 4)", "set(1, 0, 3)", "set(0, 0, 10)");
        run.rule("carries 1;softens 3;writes day;");
        run.does("send(0, 1)", "send(1, 2)", "send(2, 0)", "image()");
        run.does("person(5, 6, 6)", "set(0, 0, 20)", "set(1, 0, 2)", "set(2, 0, 5)", "swap(0, 1)", "send(3, 0)");
        run.does("set(3, 1, 77)", "day()", "film(0, 0, 20)", "sheet(1, 1, 4)");
        for (int n = 1; n <= 4; n++) {
            run.does("cell(1, " + (n - 1) + ", " + run.asks("run(1, " + n + ", 0)") + ")");
        }
        return run.fill(2, 2, 2, -1, -1).feed(SOUND);
    }

    /** Nothing of anything. */
    static Run none() {
        return new Run();
    }

    /** Five people, and a letter. */
    static Run fivePeople() {
        Run run = new Run();
        for (int one = 0; one < 5; one++) {
            run.does("person(" + one + ", " + one + ", " + (7 - one) + ")");
        }
        return run.does("send(0, 4)", "image()").fill(0, 0, 3, -1, -1);
    }

    /** Three people and eight letters, of which the first two are home. */
    static Run eightLetters() {
        Run run = Run.of("person(0, 0, 0)", "person(1, 1, 3)", "person(2, 2, 5)", "set(1, 0, 0)", "send(0, 1)",
            "send(1, 2)", "day()", "set(1, 0, 3)");
        for (int letter = 2; letter < 8; letter++) {
            run.does("send(" + letter % 3 + ", " + (letter + 1) % 3 + ")");
        }
        return run.does("image()").fill(3, 2, 2, 1, 0);
    }

    /** Six texts, the last the rule, and what else is told on the tape. */
    static Run sixTexts(String tape) {
        Run run = Run.of("person(0, 1, 0)", "person(1, 2, 3)", "send(0, 1)");
        for (int text = 1; text < 6; text++) {
            run.rule("carries " + text % 2 + ";softens " + text + ";writes 1" + text + ";");
        }
        return run.feed(tape);
    }

    /** A tape of 160 bytes, which are a text; two people and a letter. */
    static Run fullTape() {
        Run run = Run.of("person(0, 1, 0)", "person(1, 2, 3)", "send(0, 1)").feed(SOUND);
        return run.feed(" ".repeat(160 - SOUND.length()));
    }

    /** The last day, on which a letter would come home. */
    static Run lastDay() {
        return Run.of("person(0, 1, 0)", "person(1, 2, 3)", "set(1, 0, 0)", "send(0, 1)", "set(0, 0, 999)");
    }

    /** One of a kind and a number lives in 3 and is asked of letter 0, of a tone, on a day; 1 and 2 are neighbours. */
    static Run asked(int kind, int number, String text, boolean mine, int tone, int day) {
        Run run = Run.of("person(" + kind + ", " + number + ", 3)", "person(0, 0, 6)", "person(0, 0, 7)");
        run.rule(text);
        run.does(mine ? "send(0, 2)" : "send(1, 2)");
        return run.does("set(3, 0, " + tone + ")", "set(0, 0, " + day + ")");
    }
}
