/** Promises 20 to 26: tells, film, drawn, chance, image, back, count. */
public final class ToldTest {
    private static final int[] FAR = {Integer.MIN_VALUE, -1000, -1, 1000, Integer.MAX_VALUE};

    public static void main(String[] args) {
        tellsFirst();
        tellsKinds();
        tellsNumbers();
        tellsDays();
        tellsTexts();
        tellsWrong();
        film();
        drawnIsTrulyDrawn();
        drawnWrong();
        chance();
        image();
        count();
        Due.end();
    }

    /** 1 lives in 3, a letter of 2 to 0 is at 3. */
    private static NextHouseUp village(int kind, int number) {
        NextHouseUp x = new NextHouseUp();
        x.person(0, 0, 0);
        x.person(kind, number, 3);
        x.person(0, 0, 5);
        x.set(1, 0, 3);
        x.send(2, 0);
        return x;
    }

    private static void tellsFirst() {
        NextHouseUp x = village(0, 0);
        Due.fill(x, 0, 0, 2, 1, 0, -1, -1);
        Due.due("all so", x.tells(0, 0, 0, 0), -1);
        x.cell(0, 4, 7);
        Due.due("the last is otherwise", x.tells(0, 0, 0, 0), 4);
        x.cell(0, 1, 2);
        Due.due("the second is otherwise", x.tells(0, 0, 2, 0), 1);
        x.cell(0, 0, 3);
        Due.due("the first is otherwise", x.tells(0, 0, 1, 0), 0);
        Due.fill(x, 1, 2);
        Due.due("nothing told", x.tells(1, 0, 0, 0), -1);
        Due.due("all kinds", x.tells(1, 0, 0, 1), 63);
        Due.due("all numbers", x.tells(1, 0, 0, 2), 1023);
        Due.due("all days", x.tells(1, 0, 0, 3), 100);
        Due.due("the least", x.tells(1, 0, 0, 4), 0);
        Due.due("all texts", x.tells(1, 0, 0, 5), 1);
        Due.due("all letters", x.tells(1, 0, 0, 6), 1);
        x.send(1, 0);
        x.send(2, 0);
        Due.fill(x, 2, 1, 2, 1, 0, -1);
        Due.due("all letters", x.tells(2, 0, 0, 6), 7);
        x.day();
        Due.due("behind a day", x.tells(2, 0, 0, 6), 0);
        x.send(1, 0);
        Due.due("but of a new one", x.tells(2, 0, 0, 6), 8);
        Due.due("of letter 3", x.tells(2, 3, 0, 0), -1);
        Due.due("of letter 2", x.tells(2, 2, 0, 0), 0);
        Due.fill(x, 3, 2, 1, 0, -1 + (1 << 16));
        Due.due("65535 is not home", x.tells(3, 0, 0, 0), 2);
        Due.fill(x, 3, 1, 1, 0, -1 + (1 << 16));
        Due.due("as a short it is", x.tells(3, 0, 0, 0), -1);
        Due.fill(x, 3, 0, 1, 256, 255);
        Due.due("as bytes too", x.tells(3, 0, 0, 0), -1);
        Due.due("in thought", x.told(0, 9), 2);
    }

    private static void tellsKinds() {
        NextHouseUp x = village(0, 0);
        Due.fill(x, 0, 0, 2);
        Due.due("all but an ord who is 0 today", x.tells(0, 0, 1, 1), 1 + 2 + 4 + 16 + 32);
        x.set(2, 1, 5);
        Due.due("all but a keeper who is 5", x.tells(0, 0, 1, 1), 1 + 2 + 4 + 8 + 32);
        Due.due("whom it does not come to", x.tells(0, 0, 2, 1), 63);
        Due.fill(x, 0, 0, 3);
        Due.due("kept", x.tells(0, 0, 1, 1), 16);
        Due.due("kept, as it stands", x.tells(0, 0, 2, 1), 0);
        Due.rule(x, "carries 0;softens 0;writes 0;");
        Due.due("kept, but by a top", x.tells(0, 0, 1, 1), 31);
        x.set(3, 0, 50);
        Due.due("kept, but by widows", x.tells(0, 0, 1, 1), 1 + 4 + 16);
        Due.due("in thought", x.told(1, 4), 0);
    }

    private static void tellsNumbers() {
        NextHouseUp x = village(4, 7);
        Due.fill(x, 0, 0, 3, 3);
        Due.due("kept by a keeper above 4", x.tells(0, 0, 1, 2), 0x3e0);
        Due.due("with another one", x.tells(0, 0, 0, 2), 1023);
        x.cell(0, 1, 2);
        Due.due("by none of a keeper", x.tells(0, 0, 1, 2), 0);
        NextHouseUp y = village(3, 7);
        y.set(0, 0, 12);
        Due.fill(y, 0, 0, 3, 2);
        Due.due("an ord on day 12", y.tells(0, 0, 1, 2), 1 << 5);
        y.cell(0, 0, 2);
        y.cell(0, 1, 1);
        Due.due("carried on day 12", y.tells(0, 0, 1, 2), 1023 - (1 << 5));
        Due.due("in thought", y.told(1, 2), 7);
    }

    private static void tellsDays() {
        NextHouseUp x = village(3, 2);
        x.set(0, 0, 500);
        Due.fill(x, 0, 0, 3, 2);
        Due.due("days that are 2 modulo 7", x.tells(0, 0, 1, 3), 14);
        Due.due("the least", x.tells(0, 0, 1, 4), 2);
        x.set(2, 1, 0);
        Due.due("days that are 0 modulo 7", x.tells(0, 0, 2, 3), 15);
        Due.due("the least", x.tells(0, 0, 2, 4), 0);
        x.cell(0, 1, 3);
        Due.due("none", x.tells(0, 0, 1, 3), 0);
        Due.due("none", x.tells(0, 0, 1, 4), -1);
        Due.rule(x, "carries 99<day;softens 0;writes 0;");
        x.set(2, 1, 9);
        Due.due("kept twice: up to 98", x.tells(0, 0, 1, 3), 99);
        x.cell(0, 1, 2);
        Due.due("only 99 comes to 100 then", x.tells(0, 0, 1, 4), 99);
        Due.due("in thought", x.told(0, 0), 500);
    }

    private static void tellsTexts() {
        NextHouseUp x = village(0, 0);
        Due.text(x, "carries 0;softens 0;writes 0;");
        Due.text(x, "carries read<2;softens 0;writes 0;");
        Due.text(x, "carries read=2;softens 0;writes 0;");
        Due.text(x, "carries number;softens 0;writes 0;");
        Due.text(x, "carries house=3;softens 0;writes 0;");
        Due.fill(x, 0, 0, 2);
        Due.due("by which it is carried", x.tells(0, 0, 1, 5), 1 + 8 + 32);
        Due.fill(x, 0, 0, 3);
        Due.due("by which it is kept", x.tells(0, 0, 0, 5), 2 + 4 + 16);
        x.force(1);
        Due.due("whatever the rule is", x.tells(0, 0, 0, 5), 2 + 4 + 16);
        Due.due("in thought", x.count(5), 1);
    }

    private static void tellsWrong() {
        NextHouseUp x = village(0, 0);
        for (int what = 0; what <= 6; what++) {
            Due.due("a missing sheet", x.tells(0, 0, 0, what), -11);
        }
        Due.due("a missing sheet, letter 1", x.tells(0, 1, 0, 0), -2);
        Due.due("a missing sheet, of 3", x.tells(0, 0, 3, 0), -2);
        Due.due("a missing sheet, what 7", x.tells(0, 0, 0, 7), -2);
        x.sheet(0, 0, 21);
        Due.due("21 are too many", x.tells(0, 0, 0, 0), -2);
        x.sheet(0, 0, 20);
        Due.due("20 are not", x.tells(0, 0, 0, 0), 0);
        Due.due("sheet 4", x.tells(4, 0, 0, 0), -2);
        Due.due("sheet -1", x.tells(-1, 0, 0, 0), -2);
        for (int far : FAR) {
            Due.due("sheet far", x.tells(far, 0, 0, 0), -2);
            Due.due("letter far", x.tells(0, far, 0, 0), -2);
            Due.due("one far", x.tells(0, 0, far, 0), -2);
            Due.due("what far", x.tells(0, 0, 0, far), -2);
        }
        NextHouseUp nobody = new NextHouseUp();
        nobody.sheet(0, 0, 1);
        Due.due("tells of nobody", nobody.tells(0, 0, 0, 0), -2);
    }

    private static void film() {
        NextHouseUp x = village(0, 0);
        Due.due("film", x.film(2, 0, 6), 6);
        Due.fill(x, 3, 0, 2, 1, 0, -1, -1, -1);
        Due.due("it is a row of bytes", x.copy(2, 0, 3, 0, 6), 6);
        Due.due("it tells what is so", x.tells(2, 0, 0, 0), -1);
        Due.due("as it was written", x.tells(3, 0, 0, 0), -1);
        Due.due("six of them", x.cell(2, 6, 0), -12);
        Due.due("film 20", x.film(2, 0, 20), 20);
        Due.due("twenty of them", x.cell(2, 20, 0), -12);
        Due.due("film 0", x.film(2, 0, 0), 0);
        Due.due("none of them", x.cell(2, 0, 0), -12);
        Due.due("in thought", x.told(0, 9), 3);
        Due.due("film 21", x.film(2, 0, 21), -2);
        Due.due("film sheet 4", x.film(4, 0, 1), -2);
        Due.due("film of letter 1", x.film(2, 1, 1), -2);
        for (int far : FAR) {
            Due.due("film far", x.film(far, 0, 1), -2);
            Due.due("film of far", x.film(2, far, 1), -2);
            Due.due("film n far", x.film(2, 0, far), -2);
        }
        Due.due("what is refused changes nothing", x.cell(2, 0, 0), -12);
        Due.due("the others are missing", x.cell(0, 0, 0), -11);
    }

    private static NextHouseUp crowd() {
        NextHouseUp x = new NextHouseUp();
        x.person(1, 3, 0);
        x.person(2, 4, 3);
        x.person(3, 2, 4);
        x.person(4, 5, 6);
        x.set(0, 0, 990);
        x.send(3, 0);
        return x;
    }

    private static void drawnIsTrulyDrawn() {
        for (int seed = -50; seed < 50; seed++) {
            NextHouseUp x = crowd();
            NextHouseUp y = crowd();
            y.set(0, 0, 990 % 7);
            int last = seed * 77777777;
            for (int n = 0; n <= 40; n++) {
                Due.due("drawn by " + seed * 77777777 + " in " + n, x.drawn(seed * 77777777, n), y.count(2));
                last = last * 1103515245 + 12345;
                int one = (last >>> 9) % 8;
                last = last * 1103515245 + 12345;
                int other = (last >>> 9) % 8;
                y.send(one, other);
                y.day();
            }
            Due.due("in thought", x.count(1), 1);
        }
    }

    private static void drawnWrong() {
        NextHouseUp x = new NextHouseUp();
        Due.due("drawn by nobody", x.drawn(5, 40), 0);
        Due.due("drawn 41", x.drawn(5, 41), -2);
        for (int far : FAR) {
            Due.due("drawn n far", x.drawn(5, far), -2);
            Due.due("any seed is one", x.drawn(far, 0), 0);
        }
    }

    private static int divisor(int a, int b) {
        return b == 0 ? a : divisor(b, a % b);
    }

    private static void chance() {
        int[] seeds = {0, 1, -7, 123456789, Integer.MAX_VALUE - 3};
        for (int seed : seeds) {
            for (int m = 1; m <= 20; m++) {
                NextHouseUp x = crowd();
                for (int k = 0; k <= 8; k++) {
                    int those = 0;
                    for (int i = 0; i < m; i++) {
                        those += x.drawn(seed + i, 10) >= k ? 1 : 0;
                    }
                    int divisor = divisor(those, m);
                    Due.due("chance above", x.chance(seed, m, k, 0), those / divisor);
                    Due.due("chance below", x.chance(seed, m, k, 1), m / divisor);
                }
            }
        }
        NextHouseUp x = crowd();
        int[][] bad = {{0, 0, 0}, {21, 0, 0}, {-1, 0, 0}, {1, 9, 0}, {1, -1, 0}, {1, 0, 2}, {1, 0, -1}};
        for (int[] b : bad) {
            Due.due("chance bad", x.chance(0, b[0], b[1], b[2]), NextHouseUp.NO);
        }
        for (int far : FAR) {
            Due.due("m far", x.chance(0, far, 0, 0), NextHouseUp.NO);
            Due.due("k far", x.chance(0, 1, far, 0), NextHouseUp.NO);
            Due.due("part far", x.chance(0, 1, 0, far), NextHouseUp.NO);
        }
    }

    private static void image() {
        NextHouseUp x = crowd();
        Due.due("back to none", x.back(), -3);
        Due.rule(x, "carries 1;softens 1;writes 9;");
        x.sheet(0, 0, 3);
        Due.due("image", x.image(), 4);
        x.set(0, 0, 5);
        x.set(1, 0, 6);
        x.set(2, 1, 9);
        x.set(3, 0, 77);
        x.swap(0, 3);
        x.day();
        x.send(0, 1);
        x.person(5, 5, 7);
        x.send(4, 0);
        Due.text(x, "carries 0;softens 0;writes 1;");
        x.force(2);
        x.feed('c');
        x.sheet(0, 2, 1);
        Due.due("back", x.back(), 4);
        Due.due("day", x.told(0, 0), 990);
        Due.due("slip", x.told(0, 1), 1);
        Due.due("number", x.told(1, 2), 4);
        Due.due("house of 0", x.told(0, 5), 0);
        Due.due("house of 3", x.told(3, 5), 6);
        Due.due("who came is gone", x.told(4, 5), -1000);
        Due.due("letters", x.count(1), 1);
        Due.due("tone", x.told(0, 3), 59);
        Due.due("at", x.told(0, 9), 1);
        Due.due("read", x.told(0, 10), 8);
        Due.due("the rule", x.count(5), 1);
        Due.due("writes by it", x.writes(0), 4);
        Due.due("texts stay", x.count(3), 3);
        Due.due("the tape stays", x.count(4), 1);
        Due.due("sheets stay", x.cell(0, 1, 0), -12);
        Due.due("another comes", x.person(1, 8, 7), 4);
        Due.due("of another kind", x.told(4, 4), 1);
        Due.due("the image stays", x.back(), 4);
        x.day();
        Due.due("another image", x.image(), 4);
        x.set(0, 0, 1);
        Due.due("back to that", x.back(), 4);
        Due.due("day", x.told(0, 0), 991);
        NextHouseUp nobody = new NextHouseUp();
        Due.due("image of nobody", nobody.image(), 0);
        nobody.person(0, 0, 0);
        Due.due("back to nobody", nobody.back(), 0);
        Due.due("nobody", nobody.count(0), 0);
        Due.due("the house is free", nobody.person(3, 1, 0), 0);
        Due.due("and the kind is new", nobody.told(0, 4), 3);
    }

    private static void count() {
        NextHouseUp x = crowd();
        x.set(1, 0, 0);
        x.send(1, 0);
        x.day();
        Due.text(x, "carries 1;softens 1;writes 9;");
        x.force(1);
        x.feed(1);
        x.feed(2);
        int[] want = {4, 2, 1, 2, 2, 1};
        for (int what = 0; what < want.length; what++) {
            Due.due("count " + what, x.count(what), want[what]);
        }
        Due.due("count 6", x.count(6), -2);
        for (int far : FAR) {
            Due.due("count far", x.count(far), -2);
        }
    }
}
