/** Counts and prints the calls whose answer is not the one that is due. */
final class Due {
    /** A class that is quite wrong does not fill the screen. */
    private static final int MOST_PRINTED = 60;
    private static int wrong = 0;
    private static int asked = 0;
    private static String holding = "";

    private Due() {
    }

    /** What is due from here on holds this sentence of the document; it is printed ahead of what is wrong. */
    static void holding(String sentence) {
        holding = sentence;
    }

    static int asked() {
        return asked;
    }

    static void due(String call, long got, long want) {
        asked++;
        if (got != want) {
            wrong++;
            if (wrong <= MOST_PRINTED) {
                System.out.println(holding + call + " answered " + got + ", due is " + want);
            }
        }
    }

    static void due(String what, boolean so) {
        due(what, so ? 1 : 0, 1);
    }

    /** Feeds a text; what text() answers. */
    static int text(NextHouseUp x, String text) {
        for (int i = 0; i < text.length(); i++) {
            due("feed", x.feed(text.charAt(i)), i + 1);
        }
        return x.text();
    }

    /** A text that has to be sound comes, and is the rule. */
    static void rule(NextHouseUp x, String text) {
        int number = text(x, text);
        due("the number of " + text, number, x.count(3) - 1);
        x.force(number);
    }

    /** A sheet becomes a row of a sort with these numbers. */
    static void fill(NextHouseUp x, int sheet, int sort, int... numbers) {
        due("sheet", x.sheet(sheet, sort, numbers.length), 1);
        for (int i = 0; i < numbers.length; i++) {
            due("cell", x.cell(sheet, i, numbers[i]), 1);
        }
    }

    static void end() {
        System.out.println(wrong == 0 ? asked + " answers are as due" : wrong + " of " + asked + " answers are not as due");
        if (wrong != 0) {
            System.exit(1);
        }
    }
}
