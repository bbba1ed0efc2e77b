import java.util.ArrayList;
import java.util.List;

/** The bounds of the tape, of texts and of what an E is; promises 8 to 10. */
final class BoundsOfTexts {
    private static final String P8 = Said.promise(8), P9 = Said.promise(9), P10 = Said.promise(10);
    private static final String SOUND = Villages.SOUND;

    private BoundsOfTexts() {
    }

    static void hold() {
        tape();
        tokens();
        textOfThree();
        orAnd();
        nots();
        sums();
        ones();
        words();
        ints();
        faults();
        wrongTokens();
        opens();
        sixTexts();
        names();
        bounds();
        textZero();
        feed();
        text();
        force();
    }

    private static void sound(String text) {
        new Run().text(text, 1).due("count(3)", 2).due("count(4)", 0);
    }

    private static void fault(String text, int place) {
        new Run().text(text, -100 - place).due("count(3)", 1).due("count(4)", 0);
    }

    /** A text in which this E stands in one of the three parts, and the place where it begins. */
    private static String with(int part, String e) {
        StringBuilder text = new StringBuilder();
        for (int i = 0; i < 3; i++) {
            text.append(new String[] {"carries ", "softens ", "writes "}[i]).append(i == part ? e : "1").append(';');
        }
        return text.toString();
    }

    private static int start(int part) {
        return new int[] {8, 18, 27}[part];
    }

    private static void soundE(String e) {
        for (int part = 0; part < 3; part++) {
            sound(with(part, e));
        }
    }

    /** An E that can't stand, by a fault at this place of its own. */
    private static void faultE(String e, int place) {
        for (int part = 0; part < 3; part++) {
            fault(with(part, e), start(part) + place);
        }
    }

    /** What an E is, as long as it is within -99 .. 99. */
    private static void is(String e, int want) {
        Villages.asked(0, 7, with(1, e), false, 60, 11).due("asks(0, 0, 1)", want);
    }

    private static void tape() {
        Said.says(Said.TERMS, "A TEXT is read from THE TAPE (160 bytes at most).", () -> {
            // What stands around the E of softens has 28 bytes.
            String most = with(1, "11" + "+1".repeat(65));
            sound(most);
            Run longest = new Run().feed(most).due("count(4)", 160).due("feed(32)", -4).due("feed(59)", -4).due("count(4)", 160);
            longest.due("text()", 1).due("count(4)", 0).due("feed(32)", 1);
            sound(with(1, "1" + "+1".repeat(65)));
            sound(with(1, "1" + "+1".repeat(65)) + " ");
            // One byte more and its last ; has no room: the text ends too early.
            Run cut = new Run().feed(with(1, "111" + "+1".repeat(65))).due("count(4)", 160).due("text()", -260);
            cut.due("count(3)", 1).due("count(4)", 0);
            // As many of the longest as one object can be fed: each is kept whole.
            Run three = Run.of("person(0, 0, 0)");
            for (int text = 1; text <= 3; text++) {
                three.text("carries 1;softens 1;writes 1" + text + "+0".repeat(65) + ";", text);
            }
            for (int text = 1; text <= 3; text++) {
                three.does("force(" + text + ")").due("writes(0)", 10 + text);
            }
            new Run().due("text()", -100);
            new Run().feed(" ".repeat(161)).due("count(4)", 160).due("text()", -260).due("count(4)", 0);
            new Run().feed("9".repeat(160)).due("text()", -100);
            new Run().feed("z".repeat(160)).due("text()", -100);
        });
    }

    private static void tokens() {
        Said.says(Said.TERMS, "TOKENS, each as long as can be: WORDS (a .. z), NUMBERS (as many digits as stand there, 4 at most), "
            + "SIGNS ( ) ; + - * < = ; blanks (32, 10) may stand between.", () -> {
            for (int b = 0; b < 256; b++) {
                // Behind a number: a digit makes it longer, a blank ends it, the six signs leave the next ; without a place.
                boolean comes = b == 32 || b == 10 || b >= '0' && b <= '9';
                boolean sign = ";+-*<=".indexOf(b) >= 0;
                String text = "carries 1" + (char) b + ";softens 5;writes 40;";
                new Run().text(text, comes ? 1 : sign ? -110 : -109);
                // Ahead of all: a word goes on with what stands behind it.
                new Run().text((char) b + SOUND, b == 32 || b == 10 ? 1 : -100);
                // Within a name, a number of four, two signs.
                boolean blank = b == 32 || b == 10;
                boolean joins = "+-*<=".indexOf(b) >= 0;
                boolean word = b >= 'a' && b <= 'z';
                new Run().text("carries to" + (char) b + "ne;softens 5;writes 40;", -108);
                new Run().text("carries day" + (char) b + "day;softens 5;writes 40;",
                    joins ? 1 : word ? -108 : blank ? -112 : b == ';' ? -112 : -111);
                new Run().text("carries 1234" + (char) b + "5;softens 5;writes 40;",
                    joins ? 1 : b >= '0' && b <= '9' ? -108 : blank || b == ';' ? -113 : -112);
            }
            sound("carries1;softens5;writes40;");
            sound(" \n carries\n\n1 ;\n softens 5\n;writes 40 \n; \n");
            soundE("not(1or 2and 3)");
            soundE("not1and1or1");
            soundE("1-tone--1");
            faultE("tonehouse", 0);
            faultE("notnot 1", 0);
            faultE("not1andnot 1", 4);
            faultE("tone tone", 5);
            faultE("12 34", 3);
            faultE("tone1", 4);
            soundE("0000");
            soundE("9999");
            faultE("00000", 0);
            faultE("99999", 0);
            faultE("9999 9999", 5);
            faultE("123456789012", 0);
            faultE("1+10000", 2);
            is("0099", 99);
            is("9999=9998+1", 1);
        });
    }

    private static void textOfThree() {
        Said.says(Said.TERMS, "TEXT: carries E ; softens E ; writes E ;", () -> {
            sound("carries 1;softens 1;writes 1;");
            fault("", 0);
            fault(";", 0);
            fault("1;", 0);
            fault("softens 1;carries 1;writes 1;", 0);
            fault("carries 1;writes 1;softens 1;", 10);
            fault("carries 1;carries 1;writes 1;", 10);
            fault("carries 1;softens 1;softens 1;", 20);
            fault("carries 1 softens 1;writes 1;", 10);
            fault("carries 1;softens 1 writes 1;", 20);
            fault("carries 1;softens 1;writes 1", 28);
            fault("carries 1;softens 1;", 20);
            fault("carries 1;", 10);
            fault("carries;softens 1;writes 1;", 7);
            fault("carries 1;;softens 1;writes 1;", 10);
            fault(SOUND + ";", 29);
            fault(SOUND + " 1", 30);
            fault(SOUND + SOUND, 29);
            fault(SOUND + "\n\n)", 31);
            fault(SOUND + "?", 29);
        });
    }

    private static void orAnd() {
        Said.says(Said.TERMS, "E: AND { or AND }. AND: NOT { and NOT }.", () -> {
            for (String sign : new String[] {"or", "and"}) {
                soundE("1");
                soundE("1 " + sign + " 1");
                // As many as the tape has room for.
                sound(with(1, "1" + (sign + "1").repeat(131 / (sign.length() + 1))));
                faultE("1 " + sign, sign.length() + 2);
                faultE(sign + " 1", 0);
                faultE("1 " + sign + " " + sign + " 1", sign.length() + 3);
                faultE("1 " + sign + " ;", sign.length() + 3);
            }
            is("0" + "or 0".repeat(32), 0);
            is("0" + "or 0".repeat(31) + "or 5", 1);
            is("5" + "or 0".repeat(32), 1);
            is("1" + "and 1".repeat(26), 1);
            is("1" + "and 1".repeat(25) + "and 0", 0);
            is("0" + "and 1".repeat(26), 0);
            is("1 or 1 and 0", 1);
            is("0 and 1 or 1", 1);
            is("0 and (1 or 1)", 0);
            is("not 1 or 1", 1);
            is("not 0 and 0", 0);
            is("0 and not 0", 0);
        });
    }

    private static void nots() {
        Said.says(Said.TERMS, "NOT: not NOT, or SUM, perhaps < or = and a SUM.", () -> {
            for (String sign : new String[] {"<", "="}) {
                soundE("1" + sign + "2");
                soundE("not not 1+1" + sign + "2*3");
                faultE("1" + sign, 2);
                faultE(sign + "1", 0);
                faultE("1" + sign + "2" + sign + "3", 3);
                faultE("1" + sign + "2<3", 3);
                faultE("1" + sign + "2=3", 3);
                faultE("1" + sign + sign + "2", 2);
                faultE("1" + sign + "not 2", 2);
                soundE("(1" + sign + "2)" + sign + "3");
                soundE("1" + sign + "2 or 1" + sign + "2 and 1" + sign + "2");
            }
            is("not 1<2", 0);
            is("not 2<1", 1);
            is("not 5=0", 1);
            is("(not 5)=0", 1);
            is("(not 5)=1", 0);
            is("not not 5", 1);
            is("not not 0", 0);
            is("1+1<3", 1);
            is("2*3=6", 1);
            is("(3<2)<1", 1);
            faultE("1 not 1", 2);
            faultE("1+not 1", 2);
            faultE("2*not 1", 2);
            faultE("-not 1", 1);
            faultE("not", 3);
        });
    }

    private static void sums() {
        Said.says(Said.TERMS, "SUM: TERM { + or - TERM }. TERM: ONE { * ONE }.", () -> {
            for (String sign : new String[] {"+", "-", "*"}) {
                soundE("1" + sign + "1");
                sound(with(1, "1" + (sign + "1").repeat(65)));
                faultE("1" + sign, 2);
                faultE("1" + sign + "*1", 2);
                faultE("1" + sign + "+1", 2);
            }
            faultE("+1", 0);
            faultE("*1", 0);
            is("1" + "+1".repeat(65), 66);
            is("66" + "-1".repeat(65), 1);
            is("1" + "*1".repeat(65), 1);
            is("10-3-2", 5);
            is("10-3+2", 9);
            is("2+3*4", 14);
            is("2*3+4", 10);
            is("20-2*3*3", 2);
            is("(2+3)*4", 20);
            is("10-(3-2)", 9);
        });
    }

    private static void ones() {
        Said.says(Said.TERMS, "ONE: a NUMBER, a NAME, - ONE, ( E ).", () -> {
            soundE("-(1)");
            soundE("-tone");
            soundE("--1");
            soundE("(1 or not 1<1)");
            is("-2*3", -6);
            is("2*-3", -6);
            is("-2+3", 1);
            is("--2", 2);
            is("---2", -2);
            is("-(2+3)", -5);
            is("(((7)))", 7);
            faultE("()", 1);
            faultE("(1", 2);
            faultE("1)", 1);
            faultE("(1))", 3);
            faultE("(1 2)", 3);
            faultE("((1)", 4);
            faultE("-", 1);
            faultE("-+1", 1);
            faultE("(1;)", 2);
        });
    }

    private static void words() {
        Said.says(Said.TERMS, "NAMES are tone house number day read mine; carries, softens, writes, or, and, not are KEYS.", () -> {
            String[] names = {"tone", "house", "number", "day", "read", "mine"};
            for (String name : names) {
                soundE(name);
                soundE("-" + name + "*" + name);
                faultE(name.substring(1), 0);
                faultE(name.substring(0, name.length() - 1), 0);
                faultE(name + "s", 0);
                faultE("a" + name, 0);
                faultE(name.toUpperCase(), 0);
                faultE(name + " " + name, name.length() + 1);
                fault(name + " 1;softens 1;writes 1;", 0);
            }
            String[] keys = {"carries", "softens", "writes", "or", "and", "not"};
            for (String key : keys) {
                faultE("(" + key + ")", key.equals("not") ? 4 : 1);
                faultE("1+" + key, 2);
                faultE(key + "s", 0);
                faultE("1 " + key + "s 1", 2);
            }
            fault("carrie 1;softens 1;writes 1;", 0);
            fault("carriess 1;softens 1;writes 1;", 0);
            fault("carries 1;soften 1;writes 1;", 10);
            fault("carries 1;softens 1;write 1;", 20);
        });
    }

    private static void ints() {
        Said.says(Said.TERMS, "An E is an int (32 bits, wrapping): of or, and, not, <, = 1 or 0 (what is not 0 is true).", () -> {
            String least = "(4096*4096*128)";
            String most = "(4096*4096*128-1)";
            is(least + "<0", 1);
            is("0<" + most, 1);
            is(most + "+1=" + least, 1);
            is(least + "-1=" + most, 1);
            is("-" + least + "=" + least, 1);
            is("-" + most + "=" + least + "+1", 1);
            is(most + "+" + most, -2);
            is(most + "*" + most, 1);
            is(least + "*" + least, 0);
            is(least + "*3=" + least, 1);
            is("4096*4096*256", 0);
            is("4096*4096*256+9", 9);
            is("9999*9999*9999=-(9999*9999*10)-2755*9999-2714", 1);
            is(least + "<" + most, 1);
            is(most + "<" + least, 0);
            is(least + "<" + least, 0);
            is("0-1<" + least, 0);
            String[] truths = {"1", "2", "-1", "9999", least, most};
            for (String truth : truths) {
                is(truth + " or 0", 1);
                is("0 or " + truth, 1);
                is(truth + " or " + truth, 1);
                is(truth + " and 1", 1);
                is("7 and " + truth, 1);
                is(truth + " and 0", 0);
                is("0 and " + truth, 0);
                is("not " + truth, 0);
            }
            is("0 or 0", 0);
            is("0 and 0", 0);
            is("not 0", 1);
            is("1<2", 1);
            is("2<2", 0);
            is("3<2", 0);
            is("1=2", 0);
            is("2=2", 1);
            is("3=2", 0);
            is("(2=2)+(1<2)+(not 0)+(5 or 5)+(5 and 5)", 5);
        });
    }

    private static void faults() {
        Said.says(Said.TERMS, "FAULT: the place of the first byte of the first TOKEN that can't stand there (the text's size, if it "
            + "ends too early)", () -> {
            String text = "carries 1 ; softens 5 ; writes 40 ;";
            for (int size = 0; size < text.length(); size++) {
                boolean within = size > 0 && size < 7 || size > 12 && size < 19 || size > 24 && size < 30;
                fault(text.substring(0, size), !within ? size : size < 7 ? 0 : size < 19 ? 12 : 24);
            }
            sound(text);
            fault("\n\n", 2);
            fault("carries 1;softens 1;writes 1  ", 30);
            fault("  5", 2);
            fault(SOUND + "        x", 37);
            // The first of several, of whatever sort each is.
            fault("carries 1 1;softens ?;writes 123456;", 10);
            fault("carries ?;softens 1 1;writes 123456;", 8);
            fault("carries 123456;softens ?;writes 1 1;", 8);
            fault("carries mouse;softens ((((((1))))));writes ;", 8);
            fault("carries ((((((1))))));softens mouse;", 13);
        });
    }

    private static void wrongTokens() {
        Said.says(Said.TERMS, ", also of a byte that begins none, a WORD that is neither KEY nor NAME, a NUMBER that is too long, ",
            () -> {
            for (int b = 0; b < 256; b++) {
                boolean begins = b >= 'a' && b <= 'z' || b >= '0' && b <= '9' || "();+-*<= \n".indexOf(b) >= 0;
                if (!begins) {
                    faultE("" + (char) b, 0);
                    faultE("1+" + (char) b + "1", 2);
                    fault((char) b + SOUND, 0);
                    fault(SOUND + (char) b, 29);
                }
            }
            // Behind each token behind which a WORD or a NUMBER could stand.
            String[] ahead = {"(", "-", "not ", "1+", "1-", "1*", "1<", "1=", "1 and ", "1 or ", "(1)*(", "tone+"};
            for (String e : ahead) {
                for (String token : new String[] {"mouse", "o", "12345", "?", "A"}) {
                    faultE(e + token, e.length());
                    faultE(e + token + ")", e.length());
                    faultE(e + token + " 1)", e.length());
                }
            }
            String[] wrong = {"a", "z", "to", "ton", "toned", "an", "andy", "no", "nots", "o", "ors", "nor", "tonemine", "carry"};
            for (String word : wrong) {
                faultE(word, 0);
                faultE("1+" + word, 2);
                faultE("1 " + word + " 1", 2);
                fault(word, 0);
                fault(SOUND + word, 29);
            }
            String[] numbers = {"10000", "00001", "99999", "0000000000", "4294967297"};
            for (String number : numbers) {
                faultE(number, 0);
                faultE("-" + number, 1);
                faultE("1+" + number, 2);
                faultE("1 " + number, 2);
                fault(number, 0);
                fault(SOUND + number, 29);
            }
            fault("carries 12345", 8);
        });
    }

    /** All ways in which so many can be open at once, each as what opens; a not can't stand behind a -. */
    private static List<List<String>> opened(int many) {
        List<List<String>> all = new ArrayList<>();
        if (many == 0) {
            all.add(new ArrayList<>());
            return all;
        }
        for (List<String> ahead : opened(many - 1)) {
            boolean behindMinus = !ahead.isEmpty() && ahead.get(ahead.size() - 1).equals("-");
            for (String open : new String[] {"(", "not ", "-"}) {
                if (!behindMinus || !open.equals("not ")) {
                    List<String> more = new ArrayList<>(ahead);
                    more.add(open);
                    all.add(more);
                }
            }
        }
        return all;
    }

    private static String closed(List<String> opened, String inside) {
        StringBuilder e = new StringBuilder();
        int ends = 0;
        for (String open : opened) {
            e.append(open);
            ends += open.equals("(") ? 1 : 0;
        }
        return e.append(inside).append(")".repeat(ends)).toString();
    }

    private static void opens() {
        Said.says(Said.TERMS, "a ( , a not, a - ahead of a ONE while 5 of these are open (a ( till its ) , not and - till what they "
            + "belong to ends).", () -> {
            for (List<String> five : opened(5)) {
                String e = closed(five, "1");
                soundE(e);
                // What has ended is open no more: the same stands once more behind it.
                if (e.length() < 25) {
                    soundE(e + " and " + e);
                    soundE(e + " or " + e);
                    soundE("(1) and " + e);
                    soundE("-1<1 or " + e);
                    soundE("not 1<1 and " + e);
                    soundE("-1+" + (e.startsWith("not") ? "1 and " : "") + e);
                }
            }
            for (List<String> six : opened(6)) {
                faultE(closed(six, "1"), String.join("", six.subList(0, 5)).length());
            }
            // A not is open till its comparison ends, a - till its ONE does, a ( till its ).
            soundE("not 1<----1");
            faultE("not 1<-----1", 10);
            soundE("not 1+----1");
            faultE("not 1+1*-----1", 12);
            soundE("-1<-----1");
            soundE("-1*-----1");
            soundE("-(1)*-----1");
            soundE("(1-1-1-1-1-1-1+1)");
            soundE("((((( 1-1 )))))");
            soundE("not(not(not 1-1))");
            faultE("(1)+(((((1+(1))))))", 11);
            faultE("(1+((((1)+(-1)))))", 11);
            soundE("(1+((((1)+1)-1)))");
            faultE("(1 and not not not not not 1)", 23);
            soundE("(1 and not not not not 1)");
            soundE("(((((1)))))*(((((1)))))-(((((1)))))");
        });
    }

    private static void sixTexts() {
        Said.says(Said.TERMS, "There are 6 TEXTS at most, TEXT 0 with them.", () -> {
            Run run = new Run().due("count(3)", 1);
            for (int text = 1; text < 6; text++) {
                run.text("carries ?", -108).due("count(3)", text).text(SOUND, text).due("count(3)", text + 1);
            }
            run.text(SOUND, -4).due("count(3)", 6).due("force(6)", -2).due("force(5)", 0).due("force(0)", 5);
        });
    }

    private static void names() {
        Said.says(Said.TERMS, "Of one of PEOPLE and a LETTER: tone: its TONE; house: where one LIVES; number: NUMBER; day: DAY; read: "
            + "by how many it is READ; mine: 1, if it is FROM one, else 0 (of writes tone, read, mine 0).", () -> {
            Run run = Run.of("person(0, 0, 0)", "person(0, 9, 7)", "person(0, 1, 5)", "person(0, 2, 2)", "person(0, 3, 4)",
                "set(1, 0, 7)");
            run.text("carries 1;softens tone;writes tone+read+mine;", 1).text("carries 1;softens house;writes house*10;", 2);
            run.text("carries 1;softens number;writes number*10;", 3).text("carries 1;softens day=998;writes day;", 4);
            run.text("carries mine;softens read*2+mine;writes mine;", 5).does("send(0, 1)");
            run.does("force(1)", "set(3, 0, 0)").due("asks(0, 0, 1)", 0).does("set(3, 0, 99)").due("asks(0, 0, 1)", 99);
            run.due("writes(0)", 0).due("writes(1)", 0);
            run.does("force(2)").due("asks(0, 0, 1)", 0).due("asks(1, 0, 1)", 7).due("writes(0)", 0).due("writes(1)", 70);
            run.does("force(3)").due("asks(0, 0, 1)", 0).due("asks(1, 0, 1)", 9).due("writes(0)", 0).due("writes(1)", 90);
            run.does("force(4)").due("asks(0, 0, 1)", 0).due("writes(0)", 0).does("set(0, 0, 99)").due("writes(0)", 99);
            run.does("set(0, 0, 998)").due("asks(0, 0, 1)", 1).does("set(0, 0, 999)").due("asks(0, 0, 1)", 0).does("set(0, 0, 0)");
            run.does("force(5)").due("asks(0, 0, 0)", 1).due("asks(1, 0, 0)", 0).due("asks(0, 0, 1)", 3).due("asks(1, 0, 1)", 2);
            run.due("writes(0)", 0).does("force(0)").due("told(0, 9)", 6);
            // From 6 down to 7: read by 5, 4, 2, 0 and whom it is to, by five in all.
            int[] reads = {1, 2, 3, 3, 4, 4, 4, 5};
            for (int day = 0; day < 8; day++) {
                run.due("told(0, 9)", day < 7 ? 6 - day : 7).does("day()").does("force(5)").due("asks(1, 0, 1)", 2 * reads[day])
                    .does("force(0)");
            }
            run.due("told(0, 10)", 31).due("told(0, 9)", -1);
        });
    }

    private static void bounds() {
        Said.says(Said.TERMS, "carries, softens (-99 .. 99, else the bound), writes (0 .. 99, else the bound).", () -> {
            String[] all = {"-4096*4096*128", "-9999", "-100", "-99", "-98", "-1", "0", "1", "98", "99", "100", "9999",
                "4096*4096*128-1"};
            int[] softens = {-99, -99, -99, -99, -98, -1, 0, 1, 98, 99, 99, 99, 99};
            int[] writes = {0, 0, 0, 0, 0, 0, 0, 1, 98, 99, 99, 99, 99};
            for (int i = 0; i < all.length; i++) {
                Run run = Villages.asked(0, 0, "carries " + all[i] + ";softens " + all[i] + ";writes " + all[i] + ";", false, 40, 0);
                run.due("asks(0, 0, 0)", all[i].equals("0") ? 0 : 1).due("asks(0, 0, 1)", softens[i]).due("writes(0)", writes[i]);
                // The bound is laid on before a widow doubles what a neighbour does.
                Villages.asked(1, 0, "carries 1;softens " + all[i] + ";writes 1;", false, 40, 0).due("asks(0, 0, 1)", 2 * softens[i]);
            }
        });
    }

    private static void textZero() {
        Said.says(Said.TERMS, "TEXT 0, at first THE RULE, is: carries 1 ; softens 5 ; writes 40 ;", () -> {
            Run run = Run.of("person(0, 0, 0)", "person(0, 0, 3)", "person(0, 0, 5)", "send(0, 1)").due("count(5)", 0);
            run.due("writes(0)", 40).due("told(0, 3)", 40).due("asks(2, 0, 0)", 1).due("asks(2, 0, 1)", 5);
            run.text("carries 0;softens 1;writes 2;", 1).due("count(5)", 0).due("writes(0)", 40).due("force(1)", 0);
            run.due("writes(0)", 2).due("asks(2, 0, 0)", 0).due("asks(2, 0, 1)", 1).due("force(0)", 1);
            run.due("writes(0)", 40).due("asks(2, 0, 0)", 1).due("asks(2, 0, 1)", 5);
        });
    }

    private static void feed() {
        Said.says(P8, "A byte (0 .. 255) comes behind THE TAPE: how many it has.", () -> {
            Run run = new Run().due("feed(0)", 1).due("feed(255)", 2).due("feed(-1)", -2).due("feed(256)", -2).due("feed(1)", 3);
            for (int i = 4; i <= 160; i++) {
                run.due("feed(" + (i + 90) + ")", i);
            }
            run.due("feed(254)", -4).due("count(4)", 160);
            // Each byte stands behind those that came before.
            new Run().feed("carries 1;softens 1;writes 1").due("feed(59)", 29).due("text()", 1);
        });
        Said.refuses(P8, "BAD; FULL.", -2, Villages::some, "feed(-1)", "feed(256)", "feed(MIN)", "feed(MAX)", "feed(-256)",
            "feed(300)");
        Said.refuses(P8, "BAD; FULL.", -2, Villages::fullTape, "feed(-1)", "feed(256)", "feed(MIN)", "feed(MAX)");
        Said.refuses(P8, "BAD; FULL.", -4, Villages::fullTape, "feed(0)", "feed(255)", "feed(32)", "feed(59)");
    }

    private static void text() {
        Said.says(P9, "THE TAPE, which is empty then (by a FAULT, too), is a TEXT: its number;", () -> {
            Run run = new Run().text("carries 1;softens 1;writes 2;", 1).due("count(4)", 0).due("text()", -100).due("count(4)", 0);
            run.text("carries 1;softens 1;writes", -126).due("count(4)", 0).due("feed(51)", 1).due("count(4)", 1).due("text()", -100);
            run.text("carries 1;softens 1;writes 3;", 2).due("count(4)", 0).text("carries 1;softens 1;writes 4;", 3);
            run.due("person(0, 0, 0)", 0).does("force(1)").due("writes(0)", 2).does("force(2)").due("writes(0)", 3).does("force(3)")
                .due("writes(0)", 4);
        });
        Said.says(P9, "THE TAPE, which is empty then (by a FAULT, too), is a TEXT", () -> {
            // Nothing of what had a fault is left in the next one.
            for (String wrong : new String[] {"carries 0;softens 9;writes 9", "carries 0;softens 9;writes 9;9",
                "carries 0;softens 9;9", "carries 0?"}) {
                Run run = Run.of("person(0, 0, 0)", "person(0, 0, 1)", "send(0, 1)").feed(wrong);
                Due.due("a fault", run.asks("text()") <= -100);
                run.rule("carries 1;softens 2;writes 3;").due("asks(0, 0, 0)", 1).due("asks(0, 0, 1)", 2).due("writes(0)", 3);
            }
        });
        Said.says(P9, "-100 less the place of its FAULT.", () -> {
            new Run().due("text()", -100).text("x", -100).text(" x", -101).text(SOUND + "x", -129);
            new Run().feed(SOUND + " ".repeat(130) + "x").due("text()", -259);
            new Run().feed("carries 1;softens 1;writes 1" + " ".repeat(132)).due("count(4)", 160).due("text()", -260);
        });
        Said.refuses(P9, "FULL (ahead of all): no TEXT more has room (THE TAPE stays).", -4, () -> Villages.sixTexts(SOUND), "text()");
        Said.refuses(P9, "FULL (ahead of all): no TEXT more has room (THE TAPE stays).", -4, () -> Villages.sixTexts("carries ?"),
            "text()");
        Said.refuses(P9, "FULL (ahead of all): no TEXT more has room (THE TAPE stays).", -4, () -> Villages.sixTexts(""), "text()");
        Said.says(P9, "FULL (ahead of all): no TEXT more has room (THE TAPE stays).", () -> {
            Run run = Villages.sixTexts("abc").due("text()", -4).due("count(4)", 3).due("feed(100)", 4).due("text()", -4)
                .due("count(4)", 4);
            while (run.asks("count(4)") < 160) {
                run.does("feed(0)");
            }
            run.due("feed(0)", -4).due("text()", -4).due("count(4)", 160);
        });
    }

    private static void force() {
        Said.says(P10, "A TEXT is THE RULE: which was.", () -> {
            new Run().due("force(0)", 0).due("force(1)", -2).due("count(5)", 0);
            Run run = Villages.sixTexts("").due("count(5)", 5).due("force(0)", 5).due("writes(0)", 40).due("force(5)", 0)
                .due("writes(0)", 15);
            run.due("force(5)", 5).due("force(1)", 5).due("writes(0)", 11).due("force(4)", 1).due("count(5)", 4).due("writes(0)", 14);
        });
        Said.refuses(P10, "BAD.", -2, Villages::some, "force(-1)", "force(2)", "force(6)", "force(MIN)", "force(MAX)");
        Said.refuses(P10, "BAD.", -2, () -> Villages.sixTexts(SOUND), "force(-1)", "force(6)", "force(7)");
        Said.refuses(P10, "BAD.", -2, Villages::none, "force(-1)", "force(1)", "force(5)");
    }
}
