/** Runs of calls drawn from fixed seeds: the class answers as the model does, and never throws. */
public final class ModelTest {
    private static final int RUNS = 2000;
    /** A call more, with what it asks beside, and a last look at all stay within the 512 calls of an object. */
    private static final int CALLS = 220;
    private static final int[] FAR = {Integer.MIN_VALUE, Integer.MIN_VALUE + 1, -65536, -1000, -1, 8, 9, 10, 40, 41,
        100, 256, 1000, 65536, Integer.MAX_VALUE - 1, Integer.MAX_VALUE};
    private static final String[] TOKENS = {"tone", "house", "number", "day", "read", "mine", "0", "1", "2", "7", "50",
        "9999", "carries", "softens", "writes", "or", "and", "not", "(", ")", ";", "+", "-", "*", "<", "=", " ", "\n",
        "12345", "x", "?", "!"};
    private static final String[] BETWEEN = {"+", "-", "*", "<", "=", " or ", " and "};

    private long state;
    private NextHouseUp x;
    private Model m;
    private int calls;

    private ModelTest(long seed) {
        state = seed * 2862933555777941757L + 3037000493L;
    }

    /** 0 .. n - 1. */
    private int draw(int n) {
        state = state * 6364136223846793005L + 1442695040888963407L;
        return (int) ((state >>> 33) % n);
    }

    private int from(int least, int most) {
        return draw(24) == 0 ? FAR[draw(FAR.length)] : least + draw(most - least + 1);
    }

    private static boolean in(int v, int least, int most) {
        return least <= v && v <= most;
    }

    private void due(String call, long got, long want) {
        calls++;
        Due.due(got == want ? call : call + " (call " + calls + ")", got, want);
    }

    public static void main(String[] args) {
        for (int run = 0; run < RUNS; run++) {
            ModelTest t = new ModelTest(run);
            t.run();
            Due.due("calls of run " + run, in(t.calls, CALLS, 512));
        }
        Due.end();
    }

    private void run() {
        x = new NextHouseUp();
        m = new Model();
        int first = draw(5);
        for (int i = 0; i <= first; i++) {
            person();
        }
        while (calls < CALLS) {
            call();
        }
        all();
    }

    private void person() {
        int kind = from(0, 5);
        int number = from(0, 9);
        int house = from(0, 7);
        due("person " + kind + " " + number + " " + house, x.person(kind, number, house), m.person(kind, number, house));
    }

    /** All that can be seen of the state is the same. */
    private void all() {
        for (int of = 0; of < 9; of++) {
            for (int what = 0; what < 12; what++) {
                due("told " + of + " " + what, x.told(of, what), m.told(of, what));
            }
        }
        for (int what = 0; what < 7; what++) {
            due("count " + what, x.count(what), m.count(what));
        }
    }

    private void call() {
        switch (draw(7)) {
            case 0: people(); break;
            case 1: texts(); break;
            case 2: post(); break;
            case 3: best(); break;
            case 4: tolds(); break;
            case 5: host(); break;
            default: sheets(); break;
        }
    }

    private void people() {
        int a = from(0, 4);
        int b = from(0, 7);
        int c = from(0, 1);
        switch (draw(8)) {
            case 0: person(); break;
            case 1: due("swap", x.swap(a, b), m.swap(a, b)); break;
            case 2: due("told", x.told(a, b), m.told(a, b)); break;
            case 3: due("asks", x.asks(a, b, c), m.asks(a, b, c)); break;
            case 4: due("writes", x.writes(a), m.writes(a)); break;
            default: set(); break;
        }
    }

    private void set() {
        int what = from(0, 3);
        int of = from(0, 7);
        int v = draw(40) == 0 ? from(990, 999) : from(0, what == 0 ? 200 : what == 1 ? 7 : what == 2 ? 9 : 99);
        due("set " + what + " " + of + " " + v, x.set(what, of, v), m.set(what, of, v));
    }

    private String anE(int depth) {
        int d = draw(depth > 3 ? 3 : 9);
        switch (d) {
            case 0: return Integer.toString(draw(4) == 0 ? draw(10000) : draw(2) == 0 ? draw(60) : draw(3));
            case 1:
            case 2: return TOKENS[draw(6)];
            case 3: return "-" + anE(depth + 1);
            case 4: return "(" + anE(depth + 1) + ")";
            case 5: return "not " + anE(depth + 1);
            default: return anE(depth + 1) + BETWEEN[draw(BETWEEN.length)] + anE(depth + 1);
        }
    }

    private String aText() {
        StringBuilder text = new StringBuilder();
        for (int part = 0; part < 3; part++) {
            text.append(TOKENS[12 + part]).append(' ').append(anE(draw(3))).append(';');
        }
        for (int i = draw(3); i > 1; i--) {
            int place = draw(text.length() + 1);
            text.replace(place, Math.min(text.length(), place + draw(3)), TOKENS[draw(TOKENS.length)]);
        }
        return text.toString();
    }

    private void texts() {
        int fed = draw(4);
        if (fed == 0) {
            String text = aText();
            for (int i = 0; i < text.length() && i < 170; i++) {
                due("feed", x.feed(text.charAt(i)), m.feed(text.charAt(i)));
            }
            due("text " + text, x.text(), m.text());
        } else if (fed == 1) {
            int letter = from(0, 255);
            due("feed " + letter, x.feed(letter), m.feed(letter));
            if (draw(4) == 0) {
                due("text", x.text(), m.text());
            }
        } else {
            int text = from(0, 5);
            due("force " + text, x.force(text), m.force(text));
        }
    }

    private void post() {
        int a = from(0, 7);
        int b = from(0, 4);
        int n = from(0, 40);
        int what = from(0, 3);
        switch (draw(6)) {
            case 0: due("day", x.day(), m.day()); break;
            case 1: due("run " + a + " " + n + " " + what, x.run(a, n, what), m.run(a, n, what)); break;
            case 2: due("comes " + a, x.comes(a), m.comes(a)); break;
            default:
                if (draw(2) == 0) {
                    due("send " + b + " " + what, x.send(b, what), m.send(b, what));
                }
                break;
        }
    }

    private void best() {
        int a = from(0, 7);
        int one = from(0, 4);
        int n = from(0, draw(2) == 0 ? 20 : 40);
        int what = from(0, 1);
        switch (draw(10)) {
            case 0: due("mistake " + n + " " + what, x.mistake(n, what), m.mistake(n, what)); break;
            case 1:
                due("live " + n, x.live(n, 0), m.live(n, 0));
                due("live " + n + " " + what, x.live(n, what), m.live(n, what));
                break;
            case 2: due("mean " + what, x.mean(what), m.mean(what)); break;
            case 3:
            case 4:
            case 5: due("hide " + a + " " + one + " " + n, x.hide(a, one, n, what), m.hide(a, one, n, what)); break;
            default:
                int set = from(0, 31);
                due("tell " + one + " " + set + " " + n, x.tell(one, set, n / 2), m.tell(one, set, n / 2));
                break;
        }
    }

    private void tolds() {
        int sheet = from(0, 3);
        int letter = from(0, 7);
        int one = from(0, 4);
        int what = from(0, 6);
        int n = from(0, 20);
        int seed = draw(4) == 0 ? FAR[draw(FAR.length)] : draw(1 << 30) * 3;
        switch (draw(12)) {
            case 0: due("drawn " + seed + " " + n, x.drawn(seed, 2 * n), m.drawn(seed, 2 * n)); break;
            case 1: due("chance " + seed, x.chance(seed, n, letter, what & 1), m.chance(seed, n, letter, what & 1)); break;
            case 2:
                if (draw(4) == 0) {
                    due("image", x.image(), m.image());
                }
                break;
            case 3:
                if (draw(4) == 0) {
                    due("back", x.back(), m.back());
                    all();
                }
                break;
            case 4: due("count " + what, x.count(what), m.count(what)); break;
            case 5: due("film " + sheet + " " + letter + " " + n, x.film(sheet, letter, n), m.film(sheet, letter, n)); break;
            case 6:
            case 7:
                due("film", x.film(sheet, letter, n / 4), m.film(sheet, letter, n / 4));
                if (draw(2) == 0) {
                    people();
                    due("cell", x.cell(sheet, draw(2), letter), m.cell(sheet, lastDrawn(2), letter));
                }
                for (int w = 0; w < 7; w++) {
                    due("tells " + w, x.tells(sheet, letter, one, w), m.tells(sheet, letter, one, w));
                }
                break;
            default:
                due("tells " + what, x.tells(sheet, letter, one, what), m.tells(sheet, letter, one, what));
                break;
        }
    }

    private int lastDrawn(int n) {
        return (int) ((state >>> 33) % n);
    }

    private void sheets() {
        int a = from(0, 3);
        int b = from(0, 3);
        int i = from(-1, 41);
        int j = from(-1, 41);
        int n = from(-1, 12);
        switch (draw(5)) {
            case 0:
                int sort = from(-1, 2);
                due("sheet " + a + " " + sort + " " + i, x.sheet(a, sort, i), m.sheet(a, sort, i));
                break;
            case 1: due("copy", x.copy(a, i, b, j, n), m.copy(a, i, b, j, n)); break;
            default:
                int v = draw(10) == 0 ? draw(1 << 30) * 4 + 255 : from(-1, 9);
                due("cell " + a + " " + i + " " + v, x.cell(a, i, v), m.cell(a, i, v));
                break;
        }
    }

    private void host() {
        int a = from(0, 5);
        int k = from(0, 5);
        int from = from(-1, 40);
        int sort = from(0, 2);
        if (draw(2) == 0) {
            due("taken " + a + " " + k, x.taken(a, k), m.taken(a, k));
        } else {
            due("hill " + a + " " + sort, x.hill(a & 3, sort, from, k), m.hill(a & 3, sort, from, k));
        }
    }
}
