/** Promises 8 to 10: feed, text, force; the grammar, its faults, and what an E is. */
public final class TextsTest {
    private static final String SOUND = "carries 1;softens 5;writes 40;";

    public static void main(String[] args) {
        feed();
        sound();
        faults();
        opens();
        fullTexts();
        longTexts();
        values();
        names();
        force();
        Due.end();
    }

    private static void feed() {
        NextHouseUp x = new NextHouseUp();
        Due.due("feed -1", x.feed(-1), -2);
        Due.due("feed 256", x.feed(256), -2);
        Due.due("feed far", x.feed(Integer.MIN_VALUE), -2);
        Due.due("feed far", x.feed(Integer.MAX_VALUE), -2);
        for (int i = 0; i < 160; i++) {
            Due.due("feed", x.feed(i == 0 ? 0 : 255), i + 1);
        }
        Due.due("feed 161", x.feed(32), -4);
        Due.due("feed 161, no byte", x.feed(256), -2);
        Due.due("tape", x.count(4), 160);
        Due.due("a fault empties it", x.text(), -100);
        Due.due("tape", x.count(4), 0);
        Due.due("feed again", x.feed(0), 1);
    }

    private static void comes(String text) {
        NextHouseUp x = new NextHouseUp();
        Due.due(text, Due.text(x, text), 1);
        Due.due("texts behind " + text, x.count(3), 2);
        Due.due("tape behind " + text, x.count(4), 0);
        Due.due("rule behind " + text, x.count(5), 0);
    }

    private static void fault(String text, int place) {
        NextHouseUp x = new NextHouseUp();
        Due.due(text, Due.text(x, text), -100 - place);
        Due.due("texts behind " + text, x.count(3), 1);
        Due.due("tape behind " + text, x.count(4), 0);
        Due.due("a sound one behind " + text, Due.text(x, SOUND), 1);
    }

    /** A text whose carries is this; the fault's place is told from there on. */
    private static void faultIn(String carries, int place) {
        fault("carries " + carries, 8 + place);
    }

    private static void sound() {
        comes(SOUND);
        comes("  carries\n1 ;softens\n\n5 ; writes 40 ; \n");
        comes("carries1;softens5;writes40;");
        comes("carries 0001;softens 9999;writes 0;");
        comes("carries 60or house<3and not mine;softens 9-read;writes(1);");
        comes("carries tone*house*number+day-read-mine;softens --5;writes 1- -1;");
        comes("carries not 1 and not 1 and not 1 or not 1 and not 1 and not 1;softens 5;writes 40;");
        comes("carries -1+-1--1+-1*-1+-1;softens 5;writes 40;");
        comes("carries (1)+(1)+(1)*(1)-(1)<(1);softens 5;writes 40;");
        StringBuilder longest = new StringBuilder("carries 1");
        while (longest.length() < 160 - 21) {
            longest.append("+1");
        }
        longest.append(";softens 5;writes 40;");
        while (longest.length() < 160) {
            longest.append(' ');
        }
        comes(longest.toString());
    }

    private static void faults() {
        fault("", 0);
        fault("  \n", 3);
        fault("carries", 7);
        fault("carries 1;softens 5;writes 40", 29);
        fault("carries 1;softens 5;writes 40  ", 31);
        fault("carries 1;softens 5;", 20);
        fault(SOUND + " x", 31);
        fault(SOUND + ";", 30);
        fault(SOUND + "5", 30);
        fault(SOUND + "carries", 30);
        fault("softens 5;carries 1;writes 40;", 0);
        fault("carries 1;carries 1;writes 40;", 10);
        fault("carries 1;softens 5;softens 5;", 20);
        fault("1;softens 5;writes 40;", 0);
        fault("tone 1;", 0);
        fault("carry 1;", 0);
        fault("carriess 1;", 0);
        faultIn(";", 0);
        faultIn("1 softens", 2);
        faultIn("12345;", 0);
        faultIn("1+00001;", 2);
        faultIn("1 2;", 2);
        faultIn("toner;", 0);
        faultIn("ton;", 0);
        faultIn("mouse;", 0);
        faultIn("lead;", 0);
        faultIn("tonez;", 0);
        faultIn("(x);", 1);
        faultIn("-x;", 1);
        faultIn("not x;", 4);
        faultIn("tone1;", 4);
        faultIn("Tone;", 0);
        faultIn("tone tone;", 5);
        faultIn("or 1;", 0);
        faultIn("1 or;", 4);
        faultIn("1 and or 1;", 6);
        faultIn("1 not 1;", 2);
        faultIn("1<2<3;", 3);
        faultIn("1=2=3;", 3);
        faultIn("1<2=3;", 3);
        faultIn("1<not 2;", 2);
        faultIn("1+not 2;", 2);
        faultIn("-not 2;", 1);
        faultIn("+1;", 0);
        faultIn("*1;", 0);
        faultIn("<1;", 0);
        faultIn("1+;", 2);
        faultIn("1**1;", 2);
        faultIn("();", 1);
        faultIn("(1;", 2);
        faultIn("1);", 1);
        faultIn("(1 or);", 5);
        faultIn("(carries);", 1);
        faultIn("1\t;", 1);
        faultIn("1\r;", 1);
        faultIn("1/1;", 1);
        faultIn("1>1;", 1);
        faultIn((char) 255 + ";", 0);
        faultIn((char) 0 + ";", 0);
        faultIn("1 ? 12345;", 2);
        faultIn("1+", 2);
    }

    private static void opens() {
        comes("carries not not not not not 1;softens 5;writes 40;");
        faultIn("not not not not not not 1;", 20);
        comes("carries -----1;softens 5;writes 40;");
        faultIn("------1;", 5);
        comes("carries (((((1)))))+(((((1)))));softens 5;writes 40;");
        faultIn("((((((1))))));", 5);
        faultIn("(((((not 1)))));", 5);
        faultIn("(((((-1)))));", 5);
        comes("carries (((((1-1)))));softens 5;writes 40;");
        comes("carries not(-(-1))or not(-(-1));softens 5;writes 40;");
        faultIn("not(-(-(1)));", 7);
        faultIn("not(-(1+(-2)));", 9);
        comes("carries not(-(-1)+(-(1)));softens 5;writes 40;");
        faultIn("not not not not not(1);", 19);
        comes("carries not not not not -1<-1;softens 5;writes 40;");
        faultIn("not not not not not 1<-1;", 22);
    }

    private static void fullTexts() {
        NextHouseUp x = new NextHouseUp();
        for (int i = 1; i <= 5; i++) {
            Due.due("text " + i, Due.text(x, SOUND), i);
        }
        Due.due("six texts", x.count(3), 6);
        Due.due("a seventh, of nothing", x.text(), -4);
        Due.due("a seventh", Due.text(x, SOUND), -4);
        Due.due("the tape stays", x.count(4), SOUND.length());
        Due.due("a byte more", x.feed('?'), SOUND.length() + 1);
        Due.due("a seventh with a fault", x.text(), -4);
    }

    /** Two texts as long as can be, with faulty ones between, each told apart by what it writes. */
    private static void longTexts() {
        NextHouseUp x = new NextHouseUp();
        x.person(0, 9, 7);
        x.person(0, 0, 3);
        x.send(0, 1);
        for (int i = 1; i <= 2; i++) {
            StringBuilder text = new StringBuilder("carries mine=1;softens mine+");
            text.append(i).append(";writes ").append(i * 9);
            while (text.length() < 158) {
                text.append("+0");
            }
            text.append(';');
            Due.due("a fault", Due.text(x, "carries 7*9+8;softens 77 ?"), -125);
            Due.due("a long text", Due.text(x, text.toString()), i);
        }
        for (int i = 2; i >= 1; i--) {
            x.force(i);
            Due.due("carries by " + i, x.asks(0, 0, 0), 1);
            Due.due("carries by " + i, x.asks(1, 0, 0), 0);
            Due.due("softens by " + i, x.asks(0, 0, 1), i + 1);
            Due.due("softens by " + i, x.asks(1, 0, 1), i);
            Due.due("writes by " + i, x.writes(0), i * 9);
        }
        x.force(0);
        Due.due("softens by the first", x.asks(1, 0, 1), 5);
        NextHouseUp y = new NextHouseUp();
        y.person(0, 0, 0);
        Due.due("a fault", Due.text(y, "carries 1;softens 2;writes -3 ?"), -130);
        Due.rule(y, "carries 1;softens 2;writes 3;");
        Due.due("nothing is left of it", y.writes(0), 3);
    }

    /** What an E is, as softens tells it of a neighbour. */
    private static int value(String e) {
        NextHouseUp x = new NextHouseUp();
        x.person(0, 7, 2);
        x.person(0, 1, 4);
        x.send(1, 0);
        x.set(3, 0, 60);
        x.set(0, 0, 11);
        Due.rule(x, "carries 0;softens " + e + ";writes 0;");
        return x.asks(0, 0, 1);
    }

    private static void is(String e, int want) {
        Due.due(e, value(e), want);
    }

    private static void values() {
        is("2+3*4", 14);
        is("(2+3)*4", 20);
        is("10-3-2", 5);
        is("10-(3-2)", 9);
        is("2*3*4", 24);
        is("2-3*4", -10);
        is("-2*3", -6);
        is("-(2+3)", -5);
        is("--5", 5);
        is("3- -5", 8);
        is("1<2", 1);
        is("2<1", 0);
        is("1<1", 0);
        is("1=1", 1);
        is("1=2", 0);
        is("1+1=2", 1);
        is("-1<0", 1);
        is("not 0", 1);
        is("not 5", 0);
        is("not not 7", 1);
        is("not 2=0", 1);
        is("not 1<2", 0);
        is("5 or 0", 1);
        is("0 or 5", 1);
        is("0 or 0", 0);
        is("5 and 3", 1);
        is("5 and 0", 0);
        is("0 and 5", 0);
        is("-1 and -1", 1);
        is("1 or 1 and 0", 1);
        is("(1 or 1) and 0", 0);
        is("0 and 0 or 1", 1);
        is("not 1 or 1", 1);
        is("not (1 or 1)", 0);
        is("not 0 and 0", 0);
        is("(3<2 or 2)*7+(not 0)", 8);
        is("5", 5);
        is("0042", 42);
        is("9999*9999*9999<0", 1);
        is("9999*9999*9999+1027*9999*100<1", 1);
        is("50+(20-(3*(2+(1-5))))", 76);
        is("1+2*(3<4 and (5 or (6=6 and not (0))))", 3);
    }

    private static void names() {
        is("tone", 60);
        is("house", 2);
        is("number", 7);
        is("day", 11);
        is("read", 1);
        is("mine", 0);
        is("tone-house*number+day-read*mine", 57);
        is("number*number-house", 47);
    }

    private static void force() {
        NextHouseUp x = new NextHouseUp();
        x.person(0, 0, 0);
        Due.due("force 1 ahead of it", x.force(1), -2);
        Due.due("text", Due.text(x, "carries 0;softens 1;writes 77;"), 1);
        Due.due("a text is not the rule by itself", x.writes(0), 40);
        Due.due("force", x.force(1), 0);
        Due.due("writes by it", x.writes(0), 77);
        Due.due("the rule", x.count(5), 1);
        Due.due("force again", x.force(1), 1);
        Due.due("force -1", x.force(-1), -2);
        Due.due("force 2", x.force(2), -2);
        Due.due("force 6", x.force(6), -2);
        Due.due("force far", x.force(Integer.MAX_VALUE), -2);
        Due.due("force far", x.force(Integer.MIN_VALUE), -2);
        Due.due("force back", x.force(0), 1);
        Due.due("writes by that", x.writes(0), 40);
    }
}
