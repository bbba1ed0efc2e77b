/** Promises 11 to 14: send, day, run, comes. */
public final class PostTest {
    private static final int[] FAR = {Integer.MIN_VALUE, -1000, -1, 1000, Integer.MAX_VALUE};

    public static void main(String[] args) {
        send();
        aDay();
        kept();
        softened();
        toldAsAllIsThen();
        lastDay();
        run();
        dayBehindTheLast();
        comes();
        Due.end();
    }

    private static void letter(NextHouseUp x, int letter, int at, int tone, int read) {
        Due.due("letter " + letter + " is at", x.told(letter, 9), at);
        Due.due("letter " + letter + " has the tone", x.told(letter, 3), tone);
        Due.due("letter " + letter + " is read by", x.told(letter, 10), read);
    }

    private static void send() {
        NextHouseUp x = new NextHouseUp();
        Due.due("send of nobody", x.send(0, 1), -2);
        x.person(5, 3, 6);
        Due.due("send to oneself", x.send(0, 0), -2);
        x.person(1, 4, 1);
        Due.due("send to 2", x.send(0, 2), -2);
        Due.due("send of 2", x.send(2, 0), -2);
        for (int far : FAR) {
            Due.due("send far", x.send(far, 0), -2);
            Due.due("send far", x.send(0, far), -2);
        }
        Due.due("none came", x.count(1), 0);
        Due.due("send", x.send(0, 1), 0);
        letter(x, 0, 2, 30, 1);
        x.set(1, 0, 3);
        Due.due("send", x.send(1, 0), 1);
        letter(x, 1, 1, 20, 2);
        Due.due("from", x.told(1, 7), 1);
        Due.due("to", x.told(1, 8), 0);
        for (int i = 2; i < 8; i++) {
            Due.due("send", x.send(0, 1), i);
        }
        Due.due("a ninth", x.send(0, 1), -4);
        Due.due("a ninth to oneself", x.send(1, 1), -2);
        Due.due("eight", x.count(1), 8);
        for (int i = 0; i < 8; i++) {
            x.day();
        }
        Due.due("none home is gone", x.send(0, 1), -4);
    }

    private static void aDay() {
        NextHouseUp x = new NextHouseUp();
        Due.due("a day of nobody", x.day(), 0);
        Due.due("it is day 1", x.told(0, 0), 1);
        x.person(0, 0, 7);
        x.person(0, 0, 1);
        x.person(0, 0, 0);
        x.set(1, 0, 2);
        x.send(1, 0);
        x.set(1, 0, 0);
        x.send(0, 1);
        Due.due("one comes home, one goes down", x.day(), 2);
        letter(x, 0, 0, 35, 2);
        letter(x, 1, -1, 40, 3);
        Due.due("below 0 is 7", x.day(), 0);
        letter(x, 0, 7, 30, 6);
        Due.due("home", x.day(), 1);
        letter(x, 0, -1, 30, 7);
        Due.due("a day without any", x.day(), 0);
        letter(x, 0, -1, 30, 7);
        Due.due("it is day 5", x.told(0, 0), 5);
        Due.due("two are home", x.count(2), 2);
    }

    private static void kept() {
        NextHouseUp x = new NextHouseUp();
        x.person(4, 9, 4);
        x.person(0, 0, 2);
        x.person(0, 0, 6);
        x.set(1, 0, 3);
        x.send(2, 1);
        for (int i = 0; i < 4; i++) {
            Due.due("kept", x.day(), 0);
            letter(x, 0, 4, 40, i == 0 ? 4 : 5);
        }
        x.set(2, 0, 4);
        Due.due("carried", x.day(), 0);
        letter(x, 0, 3, 49, 5);
        Due.due("down the empty house", x.day(), 0);
        letter(x, 0, 2, 49, 5);
        Due.due("home", x.day(), 1);
        letter(x, 0, -1, 49, 7);
    }

    private static void softened() {
        NextHouseUp x = new NextHouseUp();
        x.person(1, 0, 5);
        x.person(4, 3, 4);
        x.person(0, 0, 3);
        x.person(0, 0, 0);
        x.set(1, 0, 5);
        Due.rule(x, "carries 1;softens 60;writes 40;");
        x.send(2, 3);
        x.day();
        letter(x, 0, 4, 0, 5);
        x.day();
        letter(x, 0, 3, 63, 7);
        x.day();
        letter(x, 0, 2, 3, 7);
        x.set(3, 0, 99);
        x.send(2, 3);
        x.set(3, 1, 70);
        x.swap(0, 1);
        x.day();
        letter(x, 1, 4, 99, 6);
    }

    /** Reading comes ahead of carrying and softening, and the tone changes behind both. */
    private static void toldAsAllIsThen() {
        NextHouseUp x = new NextHouseUp();
        x.person(0, 0, 0);
        x.person(0, 0, 3);
        x.person(0, 0, 5);
        x.set(1, 0, 3);
        Due.rule(x, "carries read=2;softens read*10+tone-40;writes 40;");
        x.send(2, 0);
        Due.due("asked ahead", x.asks(1, 0, 0), 0);
        x.day();
        letter(x, 0, 2, 20, 6);
        NextHouseUp y = new NextHouseUp();
        y.person(0, 0, 0);
        y.person(3, 2, 3);
        y.person(0, 0, 5);
        y.set(1, 0, 3);
        y.set(0, 0, 2);
        y.send(2, 0);
        y.day();
        letter(y, 0, 3, 40, 6);
        y.day();
        letter(y, 0, 2, 30, 6);
    }

    private static void lastDay() {
        NextHouseUp x = new NextHouseUp();
        x.set(0, 0, 998);
        x.person(0, 0, 0);
        x.person(0, 0, 4);
        x.set(1, 0, 0);
        x.send(0, 1);
        Due.due("the last", x.day(), 1);
        x.send(0, 1);
        Due.due("none behind it", x.day(), -3);
        Due.due("it is day 999", x.told(0, 0), 999);
        letter(x, 1, 4, 40, 1);
    }

    private static NextHouseUp village() {
        NextHouseUp x = new NextHouseUp();
        x.person(3, 3, 1);
        x.person(2, 5, 3);
        x.person(4, 1, 4);
        x.person(1, 0, 6);
        x.person(5, 2, 7);
        x.set(1, 0, 6);
        x.set(0, 0, 5);
        Due.rule(x, "carries tone<70 or day-day*mine<9;softens 7-read*2+number;writes 30+house*5;");
        for (int i = 0; i < 8; i++) {
            x.send(i % 5, (i * 3 + 1) % 5 == i % 5 ? (i + 1) % 5 : (i * 3 + 1) % 5);
        }
        return x;
    }

    /** What run tells of n days is what n days truly bring. */
    private static void run() {
        for (int n = 0; n <= 40; n++) {
            NextHouseUp x = village();
            NextHouseUp y = village();
            for (int i = 0; i < n; i++) {
                y.day();
            }
            for (int letter = 0; letter < 8; letter++) {
                Due.due("run at", x.run(letter, n, 0), y.told(letter, 9));
                Due.due("run tone", x.run(letter, n, 1), y.told(letter, 3));
                Due.due("run read", x.run(letter, n, 2), y.told(letter, 10));
                Due.due("run homes", x.run(letter, n, 3), y.count(2));
            }
            Due.due("only in thought", x.told(0, 0), 5);
            Due.due("only in thought", x.count(2), 0);
        }
        NextHouseUp x = village();
        Due.due("run of letter 8", x.run(8, 0, 0), -2);
        Due.due("run of -1", x.run(-1, 0, 0), -2);
        Due.due("run of letter 8, homes", x.run(8, 0, 3), -2);
        Due.due("run 41", x.run(0, 41, 0), -2);
        Due.due("run what 4", x.run(0, 0, 4), -2);
        for (int far : FAR) {
            Due.due("run far", x.run(far, 0, 0), -2);
            Due.due("run n far", x.run(0, far, 0), -2);
            Due.due("run what far", x.run(0, 0, far), -2);
        }
        Due.due("run in a new village", new NextHouseUp().run(0, 0, 0), -2);
    }

    private static void dayBehindTheLast() {
        NextHouseUp x = new NextHouseUp();
        x.person(0, 0, 0);
        x.person(0, 0, 4);
        x.person(0, 0, 6);
        x.set(0, 0, 999);
        x.set(1, 0, 4);
        Due.rule(x, "carries 1002<day;softens 1;writes 9;");
        x.send(2, 0);
        Due.due("kept on 999, .., 1002", x.run(0, 4, 0), 4);
        Due.due("carried on 1003", x.run(0, 5, 0), 3);
        Due.due("home on 1007", x.comes(0), 9);
    }

    private static void comes() {
        NextHouseUp x = new NextHouseUp();
        x.person(0, 0, 0);
        x.person(0, 0, 4);
        x.set(1, 0, 7);
        x.send(0, 1);
        Due.due("comes", x.comes(0), 8);
        x.day();
        Due.due("comes", x.comes(0), 7);
        for (int i = 0; i < 7; i++) {
            x.day();
        }
        Due.due("is home", x.comes(0), 0);
        Due.due("comes of letter 1", x.comes(1), -2);
        Due.due("comes of -1", x.comes(-1), -2);
        for (int far : FAR) {
            Due.due("comes far", x.comes(far), -2);
        }
        Due.rule(x, "carries day=67;softens 0;writes 40;");
        x.person(0, 0, 6);
        x.set(1, 0, 2);
        x.send(0, 1);
        int[] days = {10, 9, 8, 67};
        int[] want = {60, -1, -1, 3};
        for (int i = 0; i < days.length; i++) {
            x.set(0, 0, days[i]);
            Due.due("comes behind 60 at most, from " + days[i], x.comes(1), want[i]);
        }
        Due.due("none came by that", x.told(1, 9), 6);
    }
}
