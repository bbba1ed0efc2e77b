import java.util.ArrayList;
import java.util.List;

/**
 * Looks at all that an object holds, the texts, the tape, the image and the sheets too. To see these the look itself
 * changes the object: it is the last thing that is done to it. An item of a sheet is seen if the sheet tells where a
 * letter is on the next days.
 */
final class Look {
    private final Run run;
    private final List<String> seen = new ArrayList<>();
    private long people;
    private long letters;

    private Look(Run run) {
        this.run = run;
    }

    static List<String> at(Run run) {
        Look look = new Look(run);
        look.village();
        look.sheets();
        look.texts();
        look.tape();
        look.see("back()");
        look.village();
        look.see("count(5)");
        return look.seen;
    }

    /** Two looks saw the same; else the first that they saw otherwise is told. */
    static void same(String behind, List<String> seen, List<String> was) {
        int i = 0;
        while (i < seen.size() && i < was.size() && seen.get(i).equals(was.get(i))) {
            i++;
        }
        boolean same = i == seen.size() && i == was.size();
        String now = i < seen.size() ? seen.get(i) : "nothing more";
        String then = i < was.size() ? was.get(i) : "nothing more";
        Due.due("all is as it was behind " + behind + (same ? "" : ": " + now + ", was " + then), same);
    }

    private long see(String call) {
        long answer = run.asks(call);
        seen.add(call + " = " + answer);
        return answer;
    }

    private void village() {
        see("told(0, 0)");
        see("told(0, 1)");
        people = see("count(0)");
        letters = see("count(1)");
        for (int one = 0; one < people; one++) {
            for (int what : new int[] {2, 4, 5}) {
                see("told(" + one + ", " + what + ")");
            }
        }
        for (int letter = 0; letter < letters; letter++) {
            for (int what : new int[] {3, 7, 8, 9, 10}) {
                see("told(" + letter + ", " + what + ")");
            }
        }
    }

    private void sheets() {
        for (int sheet = 0; sheet < 4; sheet++) {
            if (see("cell(" + sheet + ", -1, 0)") == -11) {
                continue;
            }
            sizeOf(sheet);
            for (int sort = 0; sort < 3; sort++) {
                see("hill(" + sheet + ", " + sort + ", 0, 0)");
            }
            for (int letter = 0; letter < letters && people > 0; letter++) {
                see("tells(" + sheet + ", " + letter + ", 0, 0)");
            }
        }
    }

    private void sizeOf(int sheet) {
        int least = 0;
        int most = 40;
        while (least < most) {
            int middle = (least + most + 1) / 2;
            if (run.asks("copy(" + sheet + ", " + middle + ", " + sheet + ", " + middle + ", 0)") == 0) {
                least = middle;
            } else {
                most = middle - 1;
            }
        }
        seen.add("size of sheet " + sheet + " = " + least);
    }

    private void texts() {
        see("count(5)");
        long texts = see("count(3)");
        for (int text = 0; text < texts; text++) {
            see("force(" + text + ")");
            rule();
        }
    }

    private void rule() {
        see("writes(0)");
        see("asks(0, 0, 0)");
        see("asks(0, 0, 1)");
    }

    private void tape() {
        see("count(4)");
        see("text()");
        see("force(" + (run.asks("count(3)") - 1) + ")");
        rule();
    }
}
