/** Promises 1 to 7: a new object, set, person, swap, told, asks, writes. */
public final class PeopleTest {
    private static final int MIN = Integer.MIN_VALUE, MAX = Integer.MAX_VALUE;
    private static final int[] FAR = {MIN, MIN + 1, -1000, -1, 1000, MAX - 1, MAX};

    public static void main(String[] args) {
        newObject();
        setDayAndSlip();
        setNumberAndTone();
        person();
        swap();
        told();
        carries();
        softens();
        asksWrong();
        writes();
        Due.end();
    }

    private static void newObject() {
        NextHouseUp x = new NextHouseUp();
        int[] counts = {0, 0, 0, 1, 0, 0};
        for (int what = 0; what < counts.length; what++) {
            Due.due("new: count " + what, x.count(what), counts[what]);
        }
        Due.due("new: DAY", x.told(0, 0), 0);
        Due.due("new: SLIP", x.told(0, 1), 1);
        Due.due("new: nobody", x.told(0, 2), -1000);
        Due.due("new: no letter", x.told(0, 3), -1000);
        Due.due("new: no image", x.back(), NextHouseUp.STATE);
        for (int sheet = 0; sheet < 4; sheet++) {
            Due.due("new: sheet missing", x.cell(sheet, 0, 0), -11);
        }
        Due.due("NONE", NextHouseUp.NONE, -1);
        Due.due("BAD", NextHouseUp.BAD, -2);
        Due.due("STATE", NextHouseUp.STATE, -3);
        Due.due("FULL", NextHouseUp.FULL, -4);
        Due.due("NO", NextHouseUp.NO, -4611686018427387904L);
    }

    private static void setDayAndSlip() {
        NextHouseUp x = new NextHouseUp();
        Due.due("set day", x.set(0, 0, 999), 0);
        Due.due("set day, of far", x.set(0, MIN, 0), 999);
        Due.due("set day, of far", x.set(0, MAX, 7), 0);
        Due.due("set day 1000", x.set(0, 0, 1000), -2);
        Due.due("set day -1", x.set(0, 0, -1), -2);
        Due.due("day stayed", x.told(MAX, 0), 7);
        Due.due("set slip", x.set(1, MIN, 7), 1);
        Due.due("set slip", x.set(1, MAX, 0), 7);
        Due.due("set slip 8", x.set(1, 0, 8), -2);
        Due.due("set slip -1", x.set(1, 0, -1), -2);
        Due.due("slip stayed", x.told(MIN, 1), 0);
        for (int far : FAR) {
            Due.due("set day far", x.set(0, 0, far), -2);
            Due.due("set slip far", x.set(1, 0, far), -2);
            Due.due("set what far", x.set(far, 0, 0), -2);
        }
        Due.due("set what 4", x.set(4, 0, 0), -2);
    }

    private static void setNumberAndTone() {
        NextHouseUp x = new NextHouseUp();
        Due.due("set number of nobody", x.set(2, 0, 1), -2);
        Due.due("set tone of none", x.set(3, 0, 1), -2);
        x.person(0, 3, 0);
        x.person(0, 4, 5);
        x.send(0, 1);
        Due.due("set number", x.set(2, 0, 9), 3);
        Due.due("set number", x.set(2, 0, 0), 9);
        Due.due("set number of 1", x.set(2, 1, 5), 4);
        Due.due("set number 10", x.set(2, 0, 10), -2);
        Due.due("set number -1", x.set(2, 0, -1), -2);
        Due.due("set number of 2", x.set(2, 2, 1), -2);
        Due.due("number stayed", x.told(0, 2), 0);
        Due.due("other number stayed", x.told(1, 2), 5);
        Due.due("set tone", x.set(3, 0, 99), 40);
        Due.due("set tone", x.set(3, 0, 0), 99);
        Due.due("set tone 100", x.set(3, 0, 100), -2);
        Due.due("set tone -1", x.set(3, 0, -1), -2);
        Due.due("set tone of 1", x.set(3, 1, 1), -2);
        Due.due("tone stayed", x.told(0, 3), 0);
        for (int what : new int[] {-2, -1, 4, 5, 6, 7, 8, 9, 10, 11}) {
            Due.due("set what " + what, x.set(what, 0, 1), -2);
        }
        Due.due("house stayed", x.told(0, 5), 0);
        x.day();
        x.day();
        Due.due("home", x.told(0, 9), -1);
        Due.due("set tone at home", x.set(3, 0, 8), 0);
        for (int far : FAR) {
            Due.due("set number of far", x.set(2, far, 1), -2);
            Due.due("set tone of far", x.set(3, far, 1), -2);
            Due.due("set number far", x.set(2, 0, far), -2);
            Due.due("set tone far", x.set(3, 0, far), -2);
        }
    }

    private static void person() {
        NextHouseUp x = new NextHouseUp();
        int[][] bad = {{-1, 0, 0}, {6, 0, 0}, {0, -1, 0}, {0, 10, 0}, {0, 0, -1}, {0, 0, 8}};
        for (int[] b : bad) {
            Due.due("person bad", x.person(b[0], b[1], b[2]), -2);
        }
        for (int far : FAR) {
            Due.due("person kind far", x.person(far, 0, 0), -2);
            Due.due("person number far", x.person(0, far, 0), -2);
            Due.due("person house far", x.person(0, 0, far), -2);
        }
        Due.due("nobody came", x.count(0), 0);
        Due.due("person", x.person(5, 9, 7), 0);
        Due.due("person in one's house", x.person(0, 0, 7), -2);
        Due.due("person", x.person(0, 0, 0), 1);
        Due.due("person", x.person(1, 1, 1), 2);
        Due.due("person", x.person(2, 2, 2), 3);
        Due.due("person", x.person(4, 4, 4), 4);
        Due.due("a sixth", x.person(3, 3, 3), -4);
        Due.due("a sixth in one's house", x.person(3, 3, 4), -2);
        Due.due("a sixth of no kind", x.person(6, 3, 3), -2);
        Due.due("five", x.count(0), 5);
        int[] kinds = {5, 0, 1, 2, 4};
        int[] numbers = {9, 0, 1, 2, 4};
        int[] houses = {7, 0, 1, 2, 4};
        for (int one = 0; one < 5; one++) {
            Due.due("number of " + one, x.told(one, 2), numbers[one]);
            Due.due("kind of " + one, x.told(one, 4), kinds[one]);
            Due.due("house of " + one, x.told(one, 5), houses[one]);
        }
    }

    private static void swap() {
        NextHouseUp x = new NextHouseUp();
        Due.due("swap of nobody", x.swap(0, 1), -2);
        x.person(0, 1, 2);
        x.person(1, 2, 5);
        x.person(2, 3, 7);
        Due.due("swap", x.swap(0, 2), 7);
        Due.due("0 lives in 7", x.told(0, 5), 7);
        Due.due("1 lives in 5", x.told(1, 5), 5);
        Due.due("2 lives in 2", x.told(2, 5), 2);
        Due.due("0 is as ever", x.told(0, 4) * 10 + x.told(0, 2), 1);
        Due.due("swap with oneself", x.swap(1, 1), -2);
        Due.due("swap with 3", x.swap(1, 3), -2);
        Due.due("swap of -1", x.swap(-1, 1), -2);
        for (int far : FAR) {
            Due.due("swap far", x.swap(far, 0), -2);
            Due.due("swap far", x.swap(0, far), -2);
        }
        Due.due("0 still lives in 7", x.told(0, 5), 7);
        Due.due("who would live where one lives", x.person(0, 0, 7), -2);
    }

    private static void told() {
        NextHouseUp x = new NextHouseUp();
        x.person(0, 1, 0);
        x.person(3, 2, 4);
        x.person(5, 6, 2);
        x.set(1, 0, 2);
        x.send(0, 1);
        x.send(1, 0);
        x.send(2, 1);
        Due.due("from", x.told(1, 7), 1);
        Due.due("to", x.told(1, 8), 0);
        Due.due("at", x.told(1, 9), 2);
        Due.due("at, beyond", x.told(0, 9), 6);
        Due.due("read", x.told(1, 10), 2);
        x.day();
        Due.due("read behind a day", x.told(1, 10), 6);
        Due.due("2 knows", x.told(2, 6), 6);
        Due.due("1 knows", x.told(1, 6), 2);
        Due.due("0 knows", x.told(0, 6), 1);
        x.day();
        x.day();
        Due.due("home", x.told(1, 9), -1);
        for (int what = 2; what <= 6; what++) {
            if (what != 3) {
                Due.due("told of nobody", x.told(3, what), -1000);
                Due.due("told of nobody", x.told(-1, what), -1000);
            }
        }
        for (int what = 7; what <= 10; what++) {
            Due.due("told of no letter", x.told(3, what), -1000);
            Due.due("told of no letter", x.told(-1, what), -1000);
        }
        Due.due("told 3 of no letter", x.told(3, 3), -1000);
        Due.due("told 11", x.told(0, 11), -1000);
        for (int far : FAR) {
            Due.due("told far", x.told(0, far), -1000);
            for (int what = 2; what <= 10; what++) {
                Due.due("told of far", x.told(far, what), -1000);
            }
        }
    }

    /** One of a kind and a number, asked of a letter of others, or of one's own. */
    private static NextHouseUp asked(int kind, int number, String text, boolean mine, int tone, int day) {
        NextHouseUp x = new NextHouseUp();
        x.person(kind, number, 3);
        x.person(0, 0, 6);
        x.person(0, 0, 7);
        Due.rule(x, text);
        x.send(mine ? 0 : 1, 2);
        x.set(3, 0, tone);
        x.set(0, 0, day);
        return x;
    }

    private static void carry(int kind, int number, String carries, boolean mine, int tone, int day, int want) {
        NextHouseUp x = asked(kind, number, "carries " + carries + ";softens 5;writes 40;", mine, tone, day);
        String call = "kind " + kind + " number " + number + " carries " + carries + " mine " + mine + " tone " + tone + " day " + day;
        Due.due(call, x.asks(0, 0, 0), want);
    }

    private static void carries() {
        carry(0, 0, "1", false, 0, 0, 1);
        carry(0, 0, "0", false, 99, 0, 0);
        carry(0, 0, "0", true, 99, 0, 0);
        carry(0, 0, "-1", false, 0, 0, 1);
        carry(0, 0, "-999", true, 0, 0, 1);
        carry(0, 0, "999", true, 0, 0, 1);
        carry(1, 0, "0", false, 49, 0, 0);
        carry(1, 0, "0", false, 50, 0, 1);
        carry(1, 0, "1", false, 0, 0, 1);
        carry(2, 0, "1", false, 0, 0, 1);
        carry(2, 0, "1", true, 99, 0, 0);
        carry(2, 0, "0", false, 99, 0, 0);
        carry(3, 3, "1", false, 0, 10, 0);
        carry(3, 3, "1", false, 0, 11, 1);
        carry(3, 3, "0", false, 50, 3, 0);
        carry(3, 3, "0", false, 50, 2, 1);
        carry(3, 3, "0", false, 49, 2, 0);
        carry(3, 0, "1", false, 0, 7, 0);
        carry(3, 7, "1", false, 0, 7, 1);
        carry(4, 4, "1", false, 0, 0, 1);
        carry(4, 5, "1", false, 99, 0, 0);
        carry(4, 4, "1", true, 99, 0, 0);
        carry(4, 4, "0", false, 99, 0, 0);
        carry(5, 0, "0", true, 0, 0, 1);
        carry(0, 0, "mine", true, 0, 0, 1);
        carry(0, 0, "mine", false, 0, 0, 0);
    }

    private static void soften(int kind, int number, String softens, int tone, int want) {
        NextHouseUp x = asked(kind, number, "carries 0;softens " + softens + ";writes 40;", false, tone, 0);
        Due.due("kind " + kind + " number " + number + " softens " + softens + " tone " + tone, x.asks(0, 0, 1), want);
    }

    private static void softens() {
        soften(0, 4, "5", 0, 5);
        soften(1, 4, "5", 0, 10);
        soften(2, 4, "5", 0, 9);
        soften(3, 4, "5", 20, 0);
        soften(3, 4, "5", 21, 10);
        soften(4, 4, "5", 0, -9);
        soften(4, 9, "5", 0, -14);
        soften(5, 4, "5", 0, 0);
        soften(0, 0, "9999", 0, 99);
        soften(0, 0, "0-9999", 0, -99);
        soften(0, 0, "100", 0, 99);
        soften(0, 0, "-100", 0, -99);
        soften(1, 0, "100", 0, 198);
        soften(1, 0, "-100", 0, -198);
        soften(2, 9, "100", 0, 108);
        soften(2, 9, "-100", 0, -90);
        soften(4, 9, "100", 0, -108);
        soften(4, 9, "-100", 0, 90);
        soften(0, 7, "number*10+house", 0, 73);
        soften(0, 7, "tone", 66, 66);
        soften(0, 7, "read", 66, 1);
    }

    private static void asksWrong() {
        NextHouseUp x = new NextHouseUp();
        Due.due("asks nobody", x.asks(0, 0, 0), -1000);
        x.person(0, 0, 0);
        x.person(0, 0, 1);
        Due.due("asks of no letter", x.asks(0, 0, 0), -1000);
        x.send(0, 1);
        Due.due("asks", x.asks(1, 0, 0), 1);
        Due.due("asks 2", x.asks(2, 0, 0), -1000);
        Due.due("asks of letter 1", x.asks(0, 1, 0), -1000);
        Due.due("asks what 2", x.asks(0, 0, 2), -1000);
        for (int far : FAR) {
            Due.due("asks far", x.asks(far, 0, 0), -1000);
            Due.due("asks of far", x.asks(0, far, 1), -1000);
            Due.due("asks what far", x.asks(0, 0, far), -1000);
        }
        Due.due("asking reads nothing", x.told(0, 10), 1);
    }

    private static void write(int kind, int number, String writes, int want) {
        NextHouseUp x = asked(kind, number, "carries 0;softens 5;writes " + writes + ";", true, 77, 6);
        String call = "kind " + kind + " number " + number + " writes " + writes;
        Due.due(call, x.writes(0), want);
        x.send(0, 1);
        Due.due(call + ", truly", x.told(1, 3), want);
    }

    private static void writes() {
        write(0, 3, "40", 40);
        write(1, 3, "40", 20);
        write(2, 3, "40", 59);
        write(3, 3, "40", 20);
        write(4, 3, "40", 59);
        write(4, 9, "40", 59);
        write(5, 3, "40", 30);
        write(5, 0, "40", 0);
        write(5, 9, "0", 90);
        write(1, 3, "41", 20);
        write(3, 3, "1", 0);
        write(0, 3, "100", 99);
        write(1, 3, "100", 49);
        write(2, 3, "100", 0);
        write(0, 3, "-1", 0);
        write(2, 3, "-1", 99);
        write(4, 3, "-9999", 99);
        write(0, 3, "tone+read*10+mine*20", 0);
        write(0, 4, "day*10+house+number", 67);
        NextHouseUp x = new NextHouseUp();
        Due.due("writes of nobody", x.writes(0), -2);
        x.person(0, 0, 0);
        Due.due("writes of 1", x.writes(1), -2);
        for (int far : FAR) {
            Due.due("writes far", x.writes(far), -2);
        }
    }
}
