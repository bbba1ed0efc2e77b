/** Promises 15 to 19: mistake, live, hide, tell, mean. */
public final class BestTest {
    private static final int[] FAR = {Integer.MIN_VALUE, -1000, -1, 1000, Integer.MAX_VALUE};

    public static void main(String[] args) {
        mistake();
        live();
        liveTies();
        liveInEachWay();
        liveWithMany();
        hide();
        hideByEarlierDays();
        tell();
        mean();
        Due.end();
    }

    private static void mistake() {
        NextHouseUp x = new NextHouseUp();
        Due.due("mistake of nobody", x.mistake(3, 0), 0);
        Due.due("mistake of nobody", x.mistake(3, 1), 0);
        x.person(4, 9, 0);
        x.person(0, 0, 5);
        x.person(0, 0, 6);
        x.send(0, 1);
        x.send(1, 2);
        x.send(2, 0);
        Due.due("none comes today", x.mistake(0, 0), 0);
        Due.due("none comes today", x.mistake(0, 1), 0);
        Due.due("without a mistake", x.mistake(1, 0), 0);
        Due.due("without a mistake", x.mistake(1, 1), 3);
        Due.due("in thought", x.told(0, 9), 6);
        Due.due("slip stays", x.told(0, 1), 1);
        x.day();
        x.day();
        Due.due("those at home stay there", x.count(2), 3);
        Due.due("those at home count", x.mistake(0, 1), 3);
        Due.due("mistake 40", x.mistake(40, 1), 3);
        Due.due("mistake 41", x.mistake(41, 0), -2);
        Due.due("mistake what 2", x.mistake(0, 2), -2);
        for (int far : FAR) {
            Due.due("mistake far", x.mistake(far, 0), -2);
            Due.due("mistake what far", x.mistake(0, far), -2);
        }
    }

    /** 1 keeps what comes; 2 carries. The letter of 2 to 0 stands where 2 lives. */
    private static NextHouseUp keptVillage() {
        NextHouseUp x = new NextHouseUp();
        x.person(0, 0, 0);
        x.person(4, 9, 1);
        x.person(0, 0, 3);
        x.set(1, 0, 3);
        x.send(2, 0);
        return x;
    }

    private static void live() {
        NextHouseUp x = keptVillage();
        int[] ways = {124, 412, 412, 214, 214, 214};
        int[] homes = {0, 1, 1, 1, 1, 1};
        for (int n = 0; n < ways.length; n++) {
            Due.due("live " + n, x.live(n, 0), ways[n]);
            Due.due("homes then " + n, x.live(n, 1), homes[n]);
        }
        Due.due("in thought", x.told(0, 5), 0);
        Due.due("live 21", x.live(21, 0), -2);
        Due.due("live what 2", x.live(0, 2), -2);
        for (int far : FAR) {
            Due.due("live far", x.live(far, 0), -2);
            Due.due("live what far", x.live(0, far), -2);
        }
        NextHouseUp nobody = new NextHouseUp();
        Due.due("nobody lives", nobody.live(20, 0), 0);
        Due.due("nobody lives", nobody.live(20, 1), 0);
        nobody.person(0, 0, 7);
        Due.due("one lives", nobody.live(20, 0), 8);
    }

    private static void liveTies() {
        NextHouseUp x = new NextHouseUp();
        x.person(0, 0, 7);
        x.person(0, 0, 6);
        x.person(0, 0, 4);
        x.person(0, 0, 2);
        x.person(0, 0, 0);
        Due.due("the first of 120 like ones", x.live(20, 0), 13578);
        x.set(1, 0, 0);
        x.send(0, 4);
        Due.due("at 0, where 4 should live", x.live(1, 0), 35781);
        x.send(1, 0);
        Due.due("at 7, where 0 should live", x.live(1, 0), 83571);
        Due.due("both at once", x.live(1, 1), 2);
    }

    /** Five letters at five houses: in each of the 120 ways once all are where they should be. */
    private static void liveInEachWay() {
        int[] houses = {4, 0, 7, 2, 5};
        for (int way = 0; way < 3125; way++) {
            int[] wanted = new int[5];
            int left = way;
            int taken = 0;
            int digits = 0;
            for (int one = 0; one < 5; one++) {
                wanted[one] = houses[left % 5];
                left /= 5;
                taken |= 1 << wanted[one];
                digits = digits * 10 + wanted[one] + 1;
            }
            if (Integer.bitCount(taken) < 5) {
                continue;
            }
            NextHouseUp x = new NextHouseUp();
            for (int one = 0; one < 5; one++) {
                x.person(4, 9, houses[one]);
            }
            for (int one = 0; one < 5; one++) {
                x.set(1, 0, (wanted[one] - houses[one] + 8) % 8);
                x.send((one + 1) % 5, one);
            }
            Due.due("live as wanted", x.live(1, 0), digits);
            Due.due("all are home then", x.live(1, 1), 5);
        }
    }

    private static void liveWithMany() {
        NextHouseUp x = new NextHouseUp();
        x.person(4, 9, 1);
        x.person(2, 0, 2);
        x.person(0, 0, 5);
        x.person(0, 0, 6);
        x.set(1, 0, 3);
        Due.rule(x, "carries 3<house;softens 0;writes 0;");
        x.send(0, 1);
        x.send(1, 0);
        // Letter 0 is at 5, letter 1 at 4; only who lives above 3 carries.
        Due.due("where 1 reads what is at 5, and 0 in 2", x.live(10, 0), 3627);
        Due.due("both", x.live(10, 1), 2);
    }

    private static void hide() {
        NextHouseUp x = new NextHouseUp();
        x.person(0, 0, 0);
        x.person(0, 0, 2);
        x.person(5, 0, 3);
        x.person(0, 0, 1);
        x.person(0, 0, 6);
        x.set(1, 0, 3);
        x.send(3, 0);
        Due.due("hide from 0: 1, 2 or 3 keeps it", x.hide(0, 0, 10, 0), 2);
        Due.due("how many", x.hide(0, 0, 10, 1), 1);
        Due.due("hide from 1: only 2, and a top too", x.hide(0, 1, 10, 0), 4);
        Due.due("how many", x.hide(0, 1, 10, 1), 1);
        Due.due("2 reads it at once", x.hide(0, 2, 1, 0), -1);
        Due.due("none", x.hide(0, 2, 1, 1), -1);
        Due.due("but not today", x.hide(0, 2, 0, 0), 0);
        Due.due("how many", x.hide(0, 2, 0, 1), 0);
        Due.due("who sent it has read it", x.hide(0, 3, 0, 0), -1);
        Due.due("4 never reads it", x.hide(0, 4, 40, 0), 0);
        Due.due("not within 3 days", x.hide(0, 0, 3, 0), 0);
        Due.due("within 4", x.hide(0, 0, 4, 0), 2);
        Due.due("in thought", x.told(0, 9), 3);
        Due.due("hide letter 1", x.hide(1, 0, 0, 0), -2);
        Due.due("hide from 5", x.hide(0, 5, 0, 0), -2);
        Due.due("hide 41", x.hide(0, 0, 41, 0), -2);
        Due.due("hide what 2", x.hide(0, 0, 0, 2), -2);
        for (int far : FAR) {
            Due.due("hide far", x.hide(far, 0, 0, 0), -2);
            Due.due("hide from far", x.hide(0, far, 0, 0), -2);
            Due.due("hide n far", x.hide(0, 0, far, 0), -2);
            Due.due("hide what far", x.hide(0, 0, 0, far), -2);
        }
        Due.due("hiding keeps nothing truly", x.run(0, 10, 0), -1);
        for (int i = 0; i < 4; i++) {
            x.day();
        }
        Due.due("0 has read it", x.hide(0, 0, 0, 0), -1);
        Due.due("4 has not", x.hide(0, 4, 40, 0), 0);
    }

    private static void hideByEarlierDays() {
        NextHouseUp x = new NextHouseUp();
        x.person(0, 0, 0);
        x.person(3, 0, 6);
        x.person(0, 0, 3);
        x.set(1, 0, 6);
        x.send(2, 0);
        Due.due("an ord keeps it today", x.hide(0, 0, 7, 0), 0);
        Due.due("and carries it tomorrow", x.hide(0, 0, 8, 0), 2);
        Due.due("2 has it as well, but wrote it", x.hide(0, 2, 8, 0), -1);
    }

    private static void tell() {
        NextHouseUp x = new NextHouseUp();
        Due.due("tell of nobody", x.tell(0, 0, 0), -2);
        x.person(0, 0, 0);
        Due.due("one alone", x.tell(0, 1, 20), -1);
        Due.due("a set beyond", x.tell(0, 2, 20), -2);
        x.person(0, 0, 2);
        x.person(4, 9, 4);
        x.person(0, 0, 6);
        x.set(1, 0, 2);
        // From 0: to 1 at 4, kept by 2; to 2 at 6, by 3 to 2; to 3 at 0, by 0 to 3.
        Due.due("just oneself today", x.tell(0, 1, 0), 1);
        Due.due("0 and 2", x.tell(0, 5, 9), 1);
        Due.due("0, 2 and 3", x.tell(0, 13, 9), 2);
        Due.due("0 and 3, behind 9", x.tell(0, 9, 9), 3);
        Due.due("0 and 3, behind 1", x.tell(0, 9, 1), 2);
        Due.due("0 and 1", x.tell(0, 3, 20), -1);
        Due.due("not oneself", x.tell(0, 4, 20), -1);
        Due.due("no set", x.tell(0, 0, 20), -1);
        Due.due("of 1: to 0 at 2, by 1", x.tell(1, 3, 9), 0);
        Due.due("none came", x.count(1), 0);
        Due.due("tell of 4", x.tell(4, 0, 0), -2);
        Due.due("tell set -1", x.tell(0, -1, 0), -2);
        Due.due("tell set 16", x.tell(0, 16, 0), -2);
        Due.due("tell set 15", x.tell(0, 15, 0), -1);
        Due.due("tell 21", x.tell(0, 0, 21), -2);
        for (int far : FAR) {
            Due.due("tell far", x.tell(far, 0, 0), -2);
            Due.due("tell set far", x.tell(0, far, 0), -2);
            Due.due("tell n far", x.tell(0, 0, far), -2);
        }
        for (int i = 0; i < 8; i++) {
            x.send(0, 1);
        }
        Due.due("no room", x.tell(0, 1, 0), -4);
        Due.due("no room, no such set", x.tell(0, -1, 0), -2);
        Due.due("no room, no such n", x.tell(0, 1, 21), -2);
    }

    private static void mean() {
        NextHouseUp x = new NextHouseUp();
        Due.due("mean of none", x.mean(0), NextHouseUp.NO);
        Due.due("mean of none", x.mean(1), NextHouseUp.NO);
        x.person(0, 0, 0);
        x.person(0, 0, 1);
        x.send(0, 1);
        Due.due("above", x.mean(0), 40);
        Due.due("below", x.mean(1), 1);
        x.send(0, 1);
        x.set(3, 1, 5);
        Due.due("above", x.mean(0), 45);
        Due.due("below", x.mean(1), 2);
        x.send(1, 0);
        x.send(1, 0);
        x.set(3, 3, 1);
        Due.due("86 by 4", x.mean(0), 43);
        Due.due("86 by 4", x.mean(1), 2);
        for (int i = 0; i < 4; i++) {
            x.set(3, i, 0);
        }
        Due.due("0 by 4", x.mean(0), 0);
        Due.due("0 by 4", x.mean(1), 1);
        x.set(3, 0, 99);
        x.day();
        x.day();
        Due.due("those at home count", x.mean(0), 99);
        Due.due("those at home count", x.mean(1), 4);
        Due.due("part 2", x.mean(2), NextHouseUp.NO);
        for (int far : FAR) {
            Due.due("part far", x.mean(far), NextHouseUp.NO);
        }
    }
}
