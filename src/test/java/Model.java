import java.util.ArrayList;
import java.util.List;
import java.util.TreeMap;

/**
 * The document told a second time, in another way than the class tells it: people are objects of
 * kinds that inherit, texts are trees, a thought is a deep copy, sheets are Java's own arrays.
 * ModelTest compares the two.
 */
final class Model {
    static final long NO = -4611686018427387904L;

    /** A neighbour, and what all others are under. */
    static class Neighbour {
        int number;
        int house;

        boolean carries(World w, Letter l, int me) {
            return w.told(0, this, l, me) != 0;
        }

        int softens(World w, Letter l, int me) {
            return w.told(1, this, l, me);
        }

        int writes(World w) {
            return w.told(2, this, null, -1);
        }
    }

    static class Widow extends Neighbour {
        boolean carries(World w, Letter l, int me) {
            return super.carries(w, l, me) || l.tone >= 50;
        }

        int softens(World w, Letter l, int me) {
            return 2 * super.softens(w, l, me);
        }

        int writes(World w) {
            return super.writes(w) / 2;
        }
    }

    static class Baker extends Neighbour {
        boolean carries(World w, Letter l, int me) {
            return super.carries(w, l, me) && l.from != me;
        }

        int softens(World w, Letter l, int me) {
            return number + super.softens(w, l, me);
        }

        int writes(World w) {
            return 99 - super.writes(w);
        }
    }

    static final class Ord extends Widow {
        boolean carries(World w, Letter l, int me) {
            return w.day % 7 == number ? false : super.carries(w, l, me);
        }

        int softens(World w, Letter l, int me) {
            return l.tone > 20 ? super.softens(w, l, me) : 0;
        }
    }

    static final class Keeper extends Baker {
        boolean carries(World w, Letter l, int me) {
            return number > 4 ? false : super.carries(w, l, me);
        }

        int softens(World w, Letter l, int me) {
            return 0 - super.softens(w, l, me);
        }
    }

    static final class Top extends Neighbour {
        boolean carries(World w, Letter l, int me) {
            return true;
        }

        int softens(World w, Letter l, int me) {
            return 0;
        }

        int writes(World w) {
            return 10 * number;
        }
    }

    private static final List<Class<? extends Neighbour>> KINDS =
        List.of(Neighbour.class, Widow.class, Baker.class, Ord.class, Keeper.class, Top.class);

    static Neighbour someone(int kind, int number, int house) {
        Neighbour one = kind == 0 ? new Neighbour() : kind == 1 ? new Widow() : kind == 2 ? new Baker()
            : kind == 3 ? new Ord() : kind == 4 ? new Keeper() : new Top();
        one.number = number;
        one.house = house;
        return one;
    }

    static int kind(Neighbour one) {
        return KINDS.indexOf(one.getClass());
    }

    static final class Letter {
        int from;
        int to;
        int at;
        int tone;
        int read;
    }

    private static int bound(int v, int least, int most) {
        return v < least ? least : v > most ? most : v;
    }

    static final class World {
        int day = 0;
        int slip = 1;
        int rule = 0;
        int still = 0;
        List<Neighbour> people = new ArrayList<>();
        List<Letter> letters = new ArrayList<>();
        final List<Tree[]> texts;

        World(List<Tree[]> texts) {
            this.texts = texts;
        }

        World copy() {
            World w = new World(texts);
            w.day = day;
            w.slip = slip;
            w.rule = rule;
            for (Neighbour one : people) {
                w.people.add(someone(kind(one), one.number, one.house));
            }
            for (Letter l : letters) {
                Letter m = new Letter();
                m.from = l.from;
                m.to = l.to;
                m.at = l.at;
                m.tone = l.tone;
                m.read = l.read;
                w.letters.add(m);
            }
            return w;
        }

        int told(int part, Neighbour one, Letter l, int me) {
            TreeMap<String, Integer> names = new TreeMap<>();
            names.put("tone", l == null ? 0 : l.tone);
            names.put("house", one.house);
            names.put("number", one.number);
            names.put("day", day);
            names.put("read", l == null ? 0 : Integer.bitCount(l.read));
            names.put("mine", l != null && l.from == me ? 1 : 0);
            int v = texts.get(rule)[part].value(names);
            return part == 0 ? v : bound(v, part == 1 ? -99 : 0, 99);
        }

        boolean is(int one) {
            return one >= 0 && one < people.size();
        }

        boolean isLetter(int l) {
            return l >= 0 && l < letters.size();
        }

        int send(int one, int other) {
            if (!is(one) || !is(other) || one == other) {
                return -2;
            }
            if (letters.size() == 8) {
                return -4;
            }
            Letter l = new Letter();
            l.from = one;
            l.to = other;
            l.tone = bound(people.get(one).writes(this), 0, 99);
            l.read = 1 << one;
            l.at = (people.get(other).house + slip) % 8;
            letters.add(l);
            return letters.size() - 1;
        }

        int day() {
            int home = 0;
            for (int i = 0; i < letters.size(); i++) {
                Letter l = letters.get(i);
                if (l.at == -1) {
                    continue;
                }
                int below = l.at == 0 ? 7 : l.at - 1;
                int who = -1;
                for (int one = 0; one < people.size(); one++) {
                    if (people.get(one).house == l.at) {
                        who = one;
                    }
                }
                if (who == -1) {
                    l.at = below;
                    continue;
                }
                l.read = l.read | 1 << who;
                Neighbour reader = people.get(who);
                if (who == l.to) {
                    l.at = -1;
                    home += 1 << i;
                } else if ((still & 1 << who) == 0 && reader.carries(this, l, who)) {
                    l.tone = bound(l.tone - reader.softens(this, l, who), 0, 99);
                    l.at = below;
                }
            }
            day++;
            return home;
        }

        World behind(int n) {
            World w = copy();
            w.still = still;
            for (int i = 0; i < n; i++) {
                w.day();
            }
            return w;
        }

        int homes() {
            int homes = 0;
            for (Letter l : letters) {
                homes += l.at == -1 ? 1 : 0;
            }
            return homes;
        }
    }

    /** An E as a tree: a number, a name, or a sign over one or two trees. */
    static final class Tree {
        final String sign;
        final Tree left;
        final Tree right;

        Tree(String sign, Tree left, Tree right) {
            this.sign = sign;
            this.left = left;
            this.right = right;
        }

        int value(TreeMap<String, Integer> names) {
            if (right == null) {
                return names.containsKey(sign) ? names.get(sign) : Integer.parseInt(sign);
            }
            int r = right.value(names);
            if (left == null) {
                return sign.equals("not") ? (r == 0 ? 1 : 0) : -r;
            }
            int l = left.value(names);
            switch (sign) {
                case "or": return (l != 0) | (r != 0) ? 1 : 0;
                case "and": return (l != 0) & (r != 0) ? 1 : 0;
                case "<": return l < r ? 1 : 0;
                case "=": return l == r ? 1 : 0;
                case "+": return l + r;
                case "-": return l - r;
                case "*": return l * r;
                default: throw new IllegalStateException(sign);
            }
        }
    }

    static final class Fault extends Exception {
        private static final long serialVersionUID = 1L;
        final int place;

        Fault(int place) {
            this.place = place;
        }
    }

    /** All tokens are cut first; one that is none is named "?". The grammar climbs over levels. */
    static final class Parser {
        static final String[][] LEVELS = {{"or"}, {"and"}, {}, {"<", "="}, {"+", "-"}, {"*"}};
        static final List<String> NAMES = List.of("tone", "house", "number", "day", "read", "mine");
        static final List<String> KEYS = List.of("carries", "softens", "writes", "or", "and", "not");
        final List<String> tokens = new ArrayList<>();
        final List<Integer> places = new ArrayList<>();
        int next = 0;
        int open = 0;

        Parser(String text) {
            int i = 0;
            while (i < text.length()) {
                char c = text.charAt(i);
                int end = i + 1;
                String token = "?";
                if (c == ' ' || c == '\n') {
                    i++;
                    continue;
                } else if (Character.toString(c).matches("[a-z]")) {
                    while (end < text.length() && text.substring(end, end + 1).matches("[a-z]")) {
                        end++;
                    }
                    String word = text.substring(i, end);
                    token = NAMES.contains(word) || KEYS.contains(word) ? word : "?";
                } else if (Character.toString(c).matches("[0-9]")) {
                    while (end < text.length() && text.substring(end, end + 1).matches("[0-9]")) {
                        end++;
                    }
                    token = end - i > 4 ? "?" : text.substring(i, end);
                } else if ("();+-*<=".indexOf(c) >= 0) {
                    token = Character.toString(c);
                }
                tokens.add(token);
                places.add(i);
                i = end;
            }
            tokens.add("");
            places.add(text.length());
        }

        String see() {
            return tokens.get(next);
        }

        Fault fault() {
            return new Fault(places.get(next));
        }

        void take(String token) throws Fault {
            if (!see().equals(token)) {
                throw fault();
            }
            next++;
        }

        Tree[] text() throws Fault {
            Tree[] parts = new Tree[3];
            for (int i = 0; i < 3; i++) {
                take(KEYS.get(i));
                parts[i] = level(0);
                take(";");
            }
            if (next != tokens.size() - 1) {
                throw fault();
            }
            return parts;
        }

        Tree level(int level) throws Fault {
            if (level == 6) {
                return one();
            }
            if (level == 2) {
                if (!see().equals("not")) {
                    return level(3);
                }
                opening();
                Tree t = new Tree("not", null, level(2));
                open--;
                return t;
            }
            Tree t = level(level + 1);
            int most = level == 3 ? 1 : 1000;
            for (int i = 0; i < most && List.of(LEVELS[level]).contains(see()); i++) {
                String sign = see();
                next++;
                t = new Tree(sign, t, level(level + 1));
            }
            return t;
        }

        void opening() throws Fault {
            if (open == 5) {
                throw fault();
            }
            open++;
            next++;
        }

        Tree one() throws Fault {
            String token = see();
            if (NAMES.contains(token) || token.matches("[0-9]+")) {
                next++;
                return new Tree(token, null, null);
            }
            Tree t;
            if (token.equals("-")) {
                opening();
                t = new Tree("-", null, one());
            } else if (token.equals("(")) {
                opening();
                t = level(0);
                take(")");
            } else {
                throw fault();
            }
            open--;
            return t;
        }
    }

    private final List<Tree[]> texts = new ArrayList<>();
    private World now = new World(texts);
    private World kept = null;
    private String tape = "";
    /** byte[], short[], int[] or null. */
    private final Object[] sheets = new Object[4];

    Model() {
        try {
            texts.add(new Parser("carries 1 ; softens 5 ; writes 40 ;").text());
        } catch (Fault f) {
            throw new IllegalStateException(f);
        }
    }

    private static boolean in(int v, int least, int most) {
        return least <= v && v <= most;
    }

    int set(int what, int of, int v) {
        int was;
        if (what == 0 && in(v, 0, 999)) {
            was = now.day;
            now.day = v;
        } else if (what == 1 && in(v, 0, 7)) {
            was = now.slip;
            now.slip = v;
        } else if (what == 2 && now.is(of) && in(v, 0, 9)) {
            was = now.people.get(of).number;
            now.people.get(of).number = v;
        } else if (what == 3 && now.isLetter(of) && in(v, 0, 99)) {
            was = now.letters.get(of).tone;
            now.letters.get(of).tone = v;
        } else {
            was = -2;
        }
        return was;
    }

    int person(int kind, int number, int house) {
        if (!in(kind, 0, 5) || !in(number, 0, 9) || !in(house, 0, 7)) {
            return -2;
        }
        for (Neighbour one : now.people) {
            if (one.house == house) {
                return -2;
            }
        }
        if (now.people.size() == 5) {
            return -4;
        }
        now.people.add(someone(kind, number, house));
        return now.people.size() - 1;
    }

    int swap(int one, int other) {
        if (!now.is(one) || !now.is(other) || one == other) {
            return -2;
        }
        int h = now.people.get(one).house;
        now.people.get(one).house = now.people.get(other).house;
        now.people.get(other).house = h;
        return now.people.get(one).house;
    }

    int told(int of, int what) {
        if (what == 0) {
            return now.day;
        }
        if (what == 1) {
            return now.slip;
        }
        if ((what == 2 || what == 4 || what == 5 || what == 6) && now.is(of)) {
            Neighbour one = now.people.get(of);
            int knows = 0;
            for (int i = 0; i < now.letters.size(); i++) {
                if ((now.letters.get(i).read & 1 << of) != 0) {
                    knows += 1 << i;
                }
            }
            return what == 2 ? one.number : what == 4 ? kind(one) : what == 5 ? one.house : knows;
        }
        if ((what == 3 || in(what, 7, 10)) && now.isLetter(of)) {
            Letter l = now.letters.get(of);
            return what == 3 ? l.tone : what == 7 ? l.from : what == 8 ? l.to : what == 9 ? l.at : l.read;
        }
        return -1000;
    }

    int asks(int one, int letter, int what) {
        if (!now.is(one) || !now.isLetter(letter) || !in(what, 0, 1)) {
            return -1000;
        }
        Neighbour who = now.people.get(one);
        Letter l = now.letters.get(letter);
        return what == 0 ? (who.carries(now, l, one) ? 1 : 0) : who.softens(now, l, one);
    }

    int writes(int one) {
        return now.is(one) ? bound(now.people.get(one).writes(now), 0, 99) : -2;
    }

    int feed(int letter) {
        if (!in(letter, 0, 255)) {
            return -2;
        }
        if (tape.length() == 160) {
            return -4;
        }
        tape = tape + (char) letter;
        return tape.length();
    }

    int text() {
        if (texts.size() == 6) {
            return -4;
        }
        String text = tape;
        tape = "";
        try {
            texts.add(new Parser(text).text());
            return texts.size() - 1;
        } catch (Fault f) {
            return -100 - f.place;
        }
    }

    int force(int text) {
        if (!in(text, 0, texts.size() - 1)) {
            return -2;
        }
        int was = now.rule;
        now.rule = text;
        return was;
    }

    int send(int one, int other) {
        return now.send(one, other);
    }

    int day() {
        return now.day == 999 ? -3 : now.day();
    }

    int run(int letter, int n, int what) {
        if (!now.isLetter(letter) || !in(n, 0, 40) || !in(what, 0, 3)) {
            return -2;
        }
        World w = now.behind(n);
        Letter l = w.letters.get(letter);
        return what == 0 ? l.at : what == 1 ? l.tone : what == 2 ? l.read : w.homes();
    }

    int comes(int letter) {
        if (!now.isLetter(letter)) {
            return -2;
        }
        for (int n = 0; n <= 60; n++) {
            if (now.behind(n).letters.get(letter).at == -1) {
                return n;
            }
        }
        return -1;
    }

    int mistake(int n, int what) {
        if (!in(n, 0, 40) || !in(what, 0, 1)) {
            return -2;
        }
        int best = 0;
        int most = -1;
        for (int slip = 7; slip >= 0; slip--) {
            World w = now.copy();
            for (Letter l : w.letters) {
                if (l.at != -1) {
                    l.at = (w.people.get(l.to).house + slip) % 8;
                }
            }
            int homes = w.behind(n).homes();
            if (homes >= most) {
                most = homes;
                best = slip;
            }
        }
        return what == 0 ? best : most;
    }

    private static void ways(List<Integer> houses, List<Integer> taken, List<List<Integer>> all) {
        if (taken.size() == houses.size()) {
            all.add(new ArrayList<>(taken));
        }
        for (int house : houses) {
            if (!taken.contains(house)) {
                taken.add(house);
                ways(houses, taken, all);
                taken.remove(taken.size() - 1);
            }
        }
    }

    int live(int n, int what) {
        if (!in(n, 0, 20) || !in(what, 0, 1)) {
            return -2;
        }
        List<Integer> houses = new ArrayList<>();
        for (Neighbour one : now.people) {
            houses.add(one.house);
        }
        List<List<Integer>> all = new ArrayList<>();
        ways(houses, new ArrayList<>(), all);
        int most = -1;
        int least = 0;
        for (List<Integer> way : all) {
            World w = now.copy();
            int digits = 0;
            for (int i = 0; i < way.size(); i++) {
                w.people.get(i).house = way.get(i);
                digits = digits * 10 + way.get(i) + 1;
            }
            int homes = w.behind(n).homes();
            if (homes > most || homes == most && digits < least) {
                most = homes;
                least = digits;
            }
        }
        return what == 0 ? least : most;
    }

    int hide(int letter, int one, int n, int what) {
        if (!now.isLetter(letter) || !now.is(one) || !in(n, 0, 40) || !in(what, 0, 1)) {
            return -2;
        }
        for (int size = 0; size <= now.people.size(); size++) {
            for (int set = 0; set < 1 << now.people.size(); set++) {
                if (Integer.bitCount(set) == size) {
                    World w = now.copy();
                    w.still = set;
                    if ((w.behind(n).letters.get(letter).read & 1 << one) == 0) {
                        return what == 0 ? set : size;
                    }
                }
            }
        }
        return -1;
    }

    int tell(int one, int set, int n) {
        if (!now.is(one) || !in(set, 0, (1 << now.people.size()) - 1) || !in(n, 0, 20)) {
            return -2;
        }
        if (now.letters.size() == 8) {
            return -4;
        }
        for (int other = 0; other < now.people.size(); other++) {
            World w = now.copy();
            int letter = w.send(one, other);
            if (letter >= 0 && w.behind(n).letters.get(letter).read == set) {
                return other;
            }
        }
        return -1;
    }

    private static long term(int above, int below, int part) {
        for (int d = below; d > 1; d--) {
            if (above % d == 0 && below % d == 0) {
                return term(above / d, below / d, part);
            }
        }
        return part == 0 ? above : below;
    }

    long mean(int part) {
        if (!in(part, 0, 1) || now.letters.isEmpty()) {
            return NO;
        }
        int sum = 0;
        for (Letter l : now.letters) {
            sum += l.tone;
        }
        return term(sum, now.letters.size(), part);
    }

    private static int size(Object sheet) {
        return sheet instanceof byte[] ? ((byte[]) sheet).length
            : sheet instanceof short[] ? ((short[]) sheet).length : ((int[]) sheet).length;
    }

    private static int item(Object sheet, int i) {
        return sheet instanceof byte[] ? ((byte[]) sheet)[i]
            : sheet instanceof short[] ? ((short[]) sheet)[i] : ((int[]) sheet)[i];
    }

    private static void put(Object sheet, int i, int v) {
        if (sheet instanceof byte[]) {
            ((byte[]) sheet)[i] = (byte) v;
        } else if (sheet instanceof short[]) {
            ((short[]) sheet)[i] = (short) v;
        } else {
            ((int[]) sheet)[i] = v;
        }
    }

    private static int otherwise(World w, int letter, Object sheet) {
        for (int i = 0; i < size(sheet); i++) {
            if (w.behind(i + 1).letters.get(letter).at != item(sheet, i)) {
                return i;
            }
        }
        return -1;
    }

    int tells(int sheet, int letter, int one, int what) {
        if (!in(sheet, 0, 3) || !now.isLetter(letter) || !now.is(one) || !in(what, 0, 6)) {
            return -2;
        }
        Object row = sheets[sheet];
        if (row == null) {
            return -11;
        }
        if (size(row) > 20) {
            return -2;
        }
        if (what == 0) {
            return otherwise(now, letter, row);
        }
        int[] limits = {0, 6, 10, 100, 100, texts.size(), now.letters.size()};
        List<Integer> so = new ArrayList<>();
        for (int v = 0; v < limits[what]; v++) {
            World w = now.copy();
            Neighbour who = w.people.get(one);
            if (what == 1) {
                w.people.set(one, someone(v, who.number, who.house));
            } else if (what == 2) {
                who.number = v;
            } else if (what == 3 || what == 4) {
                w.day = v;
            } else if (what == 5) {
                w.rule = v;
            }
            if (otherwise(w, what == 6 ? v : letter, row) == -1) {
                so.add(v);
            }
        }
        if (what == 3) {
            return so.size();
        }
        if (what == 4) {
            return so.isEmpty() ? -1 : so.get(0);
        }
        int bits = 0;
        for (int v : so) {
            bits += 1 << v;
        }
        return bits;
    }

    int film(int sheet, int letter, int n) {
        if (!in(sheet, 0, 3) || !now.isLetter(letter) || !in(n, 0, 20)) {
            return -2;
        }
        byte[] row = new byte[n];
        for (int i = 0; i < n; i++) {
            row[i] = (byte) now.behind(i + 1).letters.get(letter).at;
        }
        sheets[sheet] = row;
        return n;
    }

    int drawn(int seed, int n) {
        if (!in(n, 0, 40)) {
            return -2;
        }
        World w = now.copy();
        int z = seed;
        for (int i = 0; i < n; i++) {
            z = z * 1103515245 + 12345;
            int y = z * 1103515245 + 12345;
            w.send((z >>> 9) & 7, (y >>> 9) & 7);
            w.day();
            z = y;
        }
        return w.homes();
    }

    long chance(int seed, int m, int k, int part) {
        if (!in(m, 1, 20) || !in(k, 0, 8) || !in(part, 0, 1)) {
            return NO;
        }
        int those = 0;
        for (int i = 0; i < m; i++) {
            those += drawn(seed + i, 10) >= k ? 1 : 0;
        }
        return term(those, m, part);
    }

    int image() {
        kept = now.copy();
        return now.people.size();
    }

    int back() {
        if (kept == null) {
            return -3;
        }
        now = kept.copy();
        return now.people.size();
    }

    int count(int what) {
        int[] counts = {now.people.size(), now.letters.size(), now.homes(), texts.size(), tape.length(), now.rule};
        return in(what, 0, 5) ? counts[what] : -2;
    }

    int sheet(int sheet, int sort, int n) {
        if (!in(sheet, 0, 3) || !in(sort, -1, 2)) {
            return -2;
        }
        if (sort == -1) {
            sheets[sheet] = null;
            return 1;
        }
        if (n > 40) {
            return -2;
        }
        if (n < 0) {
            return -14;
        }
        sheets[sheet] = sort == 0 ? new byte[n] : sort == 1 ? new short[n] : new int[n];
        return 1;
    }

    int cell(int sheet, int i, int v) {
        if (!in(sheet, 0, 3)) {
            return -2;
        }
        if (sheets[sheet] == null) {
            return -11;
        }
        if (!in(i, 0, size(sheets[sheet]) - 1)) {
            return -12;
        }
        put(sheets[sheet], i, v);
        return 1;
    }

    int copy(int sheet, int i, int other, int j, int n) {
        if (!in(sheet, 0, 3) || !in(other, 0, 3)) {
            return -2;
        }
        Object a = sheets[sheet];
        Object b = sheets[other];
        if (a == null || b == null) {
            return -11;
        }
        if (a.getClass() != b.getClass()) {
            return -13;
        }
        if (i < 0 || j < 0 || n < 0 || (long) i + n > size(a) || (long) j + n > size(b)) {
            return -12;
        }
        int[] were = new int[n];
        for (int k = 0; k < n; k++) {
            were[k] = item(a, i + k);
        }
        for (int k = 0; k < n; k++) {
            put(b, j + k, were[k]);
        }
        return n;
    }

    int hill(int sheet, int sort, int from, int n) {
        if (!in(sheet, 0, 3) || !in(sort, 0, 2) || !in(n, 0, 5)) {
            return -2;
        }
        Object row = sheets[sheet];
        if (row == null) {
            return -11;
        }
        if ((row instanceof byte[] ? 0 : row instanceof short[] ? 1 : 2) != sort) {
            return -13;
        }
        int came = 0;
        for (int i = 0; i < n; i++) {
            int[] of = new int[3];
            for (int k = 0; k < 3; k++) {
                long place = (long) from + 3 * i + k;
                if (place < 0 || place >= size(row)) {
                    return -12;
                }
                of[k] = item(row, (int) place);
            }
            came += person(of[0], of[1], of[2]) >= 0 ? 1 : 0;
        }
        return came;
    }

    int taken(int one, int k) {
        if (!in(k, 0, 5)) {
            return -2;
        }
        if (!now.is(one)) {
            return -11;
        }
        Neighbour who = now.people.get(one);
        return KINDS.get(k).isInstance(who) ? who.number : -13;
    }
}
