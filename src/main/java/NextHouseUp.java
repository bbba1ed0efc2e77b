/**
 * Letters that go to the next house up: what ../shared/DOC.md promises, in the Java of
 * ../shared/LANGUAGE.md. All rows are made with the object; no call makes another one.
 */
public final class NextHouseUp {
    public static final int NONE = -1, BAD = -2, STATE = -3, FULL = -4;
    public static final long NO = -4611686018427387904L;

    private static final int NOT_TOLD = -1000;
    private static final int NOTHING = -11, OUTSIDE = -12, UNLIKE = -13, BELOW_NONE = -14;
    private static final int FAULT = -100;
    private static final int SHEETS = 4;
    private static final int LAST_DAY = 999;
    private static final int WAYS_OF_FIVE = 120;
    private static final String FIRST_RULE = "carries 1 ; softens 5 ; writes 40 ;";

    private final Texts texts;
    private final Tape tape;
    private final Village now;
    private final Village thought;
    private final Village kept;
    private boolean isKept;
    private final Sheet[] sheets;
    private final int[] way;

    public NextHouseUp() {
        Texts rules = new Texts();
        texts = rules;
        tape = new Tape(rules);
        tape.addAll(FIRST_RULE);
        tape.read();
        now = new Village(rules);
        thought = new Village(rules);
        kept = new Village(rules);
        way = new int[Village.MOST_PEOPLE];
        sheets = new Sheet[SHEETS];
        for (int i = 0; i < sheets.length; i++) {
            sheets[i] = new Sheet();
        }
    }

    // ---- houses, people, letters

    public int set(int what, int of, int v) {
        int was = told(of, what);
        if (what < 0 || what > 3 || was == NOT_TOLD || v < 0 || v > greatest(what)) {
            return BAD;
        }
        switch (what) {
            case 0: now.day = v; break;
            case 1: now.slip = v; break;
            case 2: now.changeNumber(of, v); break;
            default: now.changeTone(of, v); break;
        }
        return was;
    }

    public int person(int kind, int number, int house) {
        if (kind < 0 || kind > Village.TOP || number < 0 || number > 9) {
            return BAD;
        }
        if (house < 0 || house >= Village.HOUSES || now.livesIn(house) != NONE) {
            return BAD;
        }
        return now.comesToLive(kind, number, house);
    }

    public int swap(int one, int other) {
        if (!now.areTwo(one, other)) {
            return BAD;
        }
        int house = now.houseOf(other);
        now.moveTo(other, now.houseOf(one));
        now.moveTo(one, house);
        return house;
    }

    public int told(int of, int what) {
        if (what == 0) {
            return now.day;
        }
        if (what == 1) {
            return now.slip;
        }
        if (what == 3 || what >= 7) {
            return now.isLetter(of) ? toldOfLetter(of, what) : NOT_TOLD;
        }
        return now.isOne(of) ? toldOfOne(of, what) : NOT_TOLD;
    }

    public int asks(int one, int letter, int what) {
        if (!now.isOne(one) || !now.isLetter(letter) || what < 0 || what > 1) {
            return NOT_TOLD;
        }
        if (what == 1) {
            return now.softens(one, letter);
        }
        return now.carries(one, letter) ? 1 : 0;
    }

    public int writes(int one) {
        return now.isOne(one) ? now.toneWritten(one) : BAD;
    }

    private static int greatest(int what) {
        switch (what) {
            case 0: return LAST_DAY;
            case 1: return Village.HOUSES - 1;
            case 2: return 9;
            default: return Village.TONE_MOST;
        }
    }

    private int toldOfOne(int one, int what) {
        switch (what) {
            case 2: return now.numberOf(one);
            case 4: return now.kindOf(one);
            case 5: return now.houseOf(one);
            case 6: return now.known(one);
            default: return NOT_TOLD;
        }
    }

    private int toldOfLetter(int letter, int what) {
        switch (what) {
            case 3: return now.toneOf(letter);
            case 7: return now.fromWhom(letter);
            case 8: return now.toWhom(letter);
            case 9: return now.whereIs(letter);
            case 10: return now.readBy(letter);
            default: return NOT_TOLD;
        }
    }

    // ---- texts

    public int feed(int letter) {
        if (letter < 0 || letter > 255) {
            return BAD;
        }
        return tape.add(letter) ? tape.size : FULL;
    }

    public int text() {
        if (!texts.hasRoom()) {
            return FULL;
        }
        int fault = tape.read();
        return fault == NONE ? texts.size - 1 : FAULT - fault;
    }

    public int force(int text) {
        if (!texts.isText(text)) {
            return BAD;
        }
        int was = now.rule;
        now.rule = text;
        return was;
    }

    // ---- the post, days

    public int send(int one, int other) {
        return now.areTwo(one, other) ? now.post(one, other) : BAD;
    }

    public int day() {
        return now.day >= LAST_DAY ? STATE : now.passDay();
    }

    public int run(int letter, int n, int what) {
        if (!now.isLetter(letter) || n < 0 || n > 40 || what < 0 || what > 3) {
            return BAD;
        }
        thought.takeOver(now);
        thought.passDays(n);
        switch (what) {
            case 0: return thought.whereIs(letter);
            case 1: return thought.toneOf(letter);
            case 2: return thought.readBy(letter);
            default: return thought.homes();
        }
    }

    public int comes(int letter) {
        if (!now.isLetter(letter)) {
            return BAD;
        }
        thought.takeOver(now);
        for (int days = 0; days <= 60; days++) {
            if (thought.whereIs(letter) == Village.HOME) {
                return days;
            }
            thought.passDayOf(letter);
        }
        return NONE;
    }

    // ---- what would be best

    public int mistake(int n, int what) {
        if (n < 0 || n > 40 || what < 0 || what > 1) {
            return BAD;
        }
        int best = 0;
        int most = NONE;
        for (int slip = 0; slip < Village.HOUSES; slip++) {
            thought.takeOver(now);
            thought.slipAll(slip);
            thought.passDays(n);
            int homes = thought.homes();
            if (homes > most) {
                most = homes;
                best = slip;
            }
        }
        return what == 0 ? best : most;
    }

    public int live(int n, int what) {
        if (n < 0 || n > 20 || what < 0 || what > 1) {
            return BAD;
        }
        firstWay();
        int best = 0;
        int most = NONE;
        boolean more = true;
        for (int turn = 0; turn < WAYS_OF_FIVE && more; turn++) {
            thought.takeOver(now);
            moveByWay();
            thought.passDays(n);
            int homes = thought.homes();
            if (homes > most) {
                most = homes;
                best = digitsOfWay();
            }
            more = nextWay();
        }
        return what == 0 ? best : most;
    }

    public int hide(int letter, int one, int n, int what) {
        if (!now.isLetter(letter) || !now.isOne(one) || n < 0 || n > 40 || what < 0 || what > 1) {
            return BAD;
        }
        int best = NONE;
        for (int set = 0; set < 1 << now.people; set++) {
            if (best != NONE && Integer.bitCount(set) >= Integer.bitCount(best)) {
                continue;
            }
            thought.takeOver(now);
            thought.keeping = set;
            if ((thought.readBehind(letter, n) >> one & 1) == 0) {
                best = set;
            }
        }
        return best == NONE || what == 0 ? best : Integer.bitCount(best);
    }

    public int tell(int one, int set, int n) {
        if (!now.isOne(one) || set < 0 || set >= 1 << now.people || n < 0 || n > 20) {
            return BAD;
        }
        if (!now.hasRoom()) {
            return FULL;
        }
        for (int other = 0; other < now.people; other++) {
            thought.takeOver(now);
            if (other != one && thought.readBehind(thought.post(one, other), n) == set) {
                return other;
            }
        }
        return NONE;
    }

    public long mean(int part) {
        if (part < 0 || part > 1 || now.letters == 0) {
            return NO;
        }
        int sum = 0;
        for (int letter = 0; letter < now.letters; letter++) {
            sum += now.toneOf(letter);
        }
        return inLowestTerms(sum, now.letters, part);
    }

    /** The houses from the lowest up: the first way by the house of 0, then of 1, .. */
    private void firstWay() {
        int filled = 0;
        for (int house = 0; house < Village.HOUSES; house++) {
            if (now.livesIn(house) != NONE && filled < way.length) {
                way[filled] = house;
                filled++;
            }
        }
    }

    /** The way becomes the next one in the same order; false: it was the last. */
    private boolean nextWay() {
        int n = Math.min(now.people, way.length);
        int low = n - 2;
        while (low >= 0 && way[low] >= way[low + 1]) {
            low--;
        }
        if (low < 0) {
            return false;
        }
        int high = n - 1;
        while (high > low && way[high] <= way[low]) {
            high--;
        }
        exchange(low, high);
        int i = low + 1;
        int k = n - 1;
        while (i < k) {
            exchange(i, k);
            i++;
            k--;
        }
        return true;
    }

    private void exchange(int i, int k) {
        if (i >= 0 && i < way.length && k >= 0 && k < way.length) {
            int house = way[i];
            way[i] = way[k];
            way[k] = house;
        }
    }

    private void moveByWay() {
        for (int one = 0; one < now.people && one < way.length; one++) {
            thought.moveTo(one, way[one]);
        }
    }

    private int digitsOfWay() {
        int digits = 0;
        for (int one = 0; one < now.people && one < way.length; one++) {
            digits = digits * 10 + way[one] + 1;
        }
        return digits;
    }

    private static long inLowestTerms(int above, int below, int part) {
        int divisor = above;
        int rest = below;
        for (int turn = 0; turn < 64 && rest != 0; turn++) {
            int left = divisor % rest;
            divisor = rest;
            rest = left;
        }
        if (divisor == 0) {
            return NO;
        }
        return part == 0 ? above / divisor : below / divisor;
    }

    // ---- days that were told

    public int tells(int sheet, int letter, int one, int what) {
        Sheet row = sheetNumbered(sheet);
        if (row == null || !now.isLetter(letter) || !now.isOne(one) || what < 0 || what > 6) {
            return BAD;
        }
        if (row.isMissing()) {
            return NOTHING;
        }
        if (row.size > 20) {
            return BAD;
        }
        switch (what) {
            case 0:
                thought.takeOver(now);
                return thought.firstOtherwise(row, letter);
            case 1: return allSo(row, letter, one, what, Village.KINDS);
            case 2: return allSo(row, letter, one, what, 10);
            case 3: return daysSo(row, letter, false);
            case 4: return daysSo(row, letter, true);
            case 5: return allSo(row, letter, one, what, texts.size);
            default: return lettersSo(row);
        }
    }

    public int film(int sheet, int letter, int n) {
        Sheet row = sheetNumbered(sheet);
        if (row == null || !now.isLetter(letter) || n < 0 || n > 20) {
            return BAD;
        }
        row.become(Sheet.BYTES, n);
        thought.takeOver(now);
        for (int i = 0; i < n; i++) {
            thought.passDayOf(letter);
            row.put(i, thought.whereIs(letter));
        }
        return n;
    }

    public int drawn(int seed, int n) {
        return n < 0 || n > 40 ? BAD : homesDrawn(seed, n);
    }

    public long chance(int seed, int m, int k, int part) {
        if (m < 1 || m > 20 || k < 0 || k > 8 || part < 0 || part > 1) {
            return NO;
        }
        int those = 0;
        for (int i = 0; i < m; i++) {
            if (homesDrawn(seed + i, 10) >= k) {
                those++;
            }
        }
        return inLowestTerms(those, m, part);
    }

    public int image() {
        kept.takeOver(now);
        isKept = true;
        return now.people;
    }

    public int back() {
        if (!isKept) {
            return STATE;
        }
        now.takeOver(kept);
        return now.people;
    }

    public int count(int what) {
        switch (what) {
            case 0: return now.people;
            case 1: return now.letters;
            case 2: return now.homes();
            case 3: return texts.size;
            case 4: return tape.size;
            case 5: return now.rule;
            default: return BAD;
        }
    }

    /** The kinds (what 1), numbers (2) or texts (5) below a limit by which a letter goes as told, as bits. */
    private int allSo(Sheet row, int letter, int one, int what, int limit) {
        int bits = 0;
        for (int v = 0; v < limit; v++) {
            thought.takeOver(now);
            switch (what) {
                case 1: thought.changeKind(one, v); break;
                case 2: thought.changeNumber(one, v); break;
                default: thought.rule = v; break;
            }
            if (thought.firstOtherwise(row, letter) == NONE) {
                bits |= 1 << v;
            }
        }
        return bits;
    }

    private int daysSo(Sheet row, int letter, boolean least) {
        int many = 0;
        for (int day = 0; day < 100; day++) {
            thought.takeOver(now);
            thought.day = day;
            if (thought.firstOtherwise(row, letter) == NONE) {
                if (least) {
                    return day;
                }
                many++;
            }
        }
        return least ? NONE : many;
    }

    private int lettersSo(Sheet row) {
        int bits = 0;
        for (int letter = 0; letter < now.letters; letter++) {
            thought.takeOver(now);
            if (thought.firstOtherwise(row, letter) == NONE) {
                bits |= 1 << letter;
            }
        }
        return bits;
    }

    private int homesDrawn(int seed, int n) {
        thought.takeOver(now);
        int last = seed;
        for (int i = 0; i < n; i++) {
            last = last * 1103515245 + 12345;
            int one = (last >>> 9) % 8;
            last = last * 1103515245 + 12345;
            int other = (last >>> 9) % 8;
            if (thought.areTwo(one, other)) {
                thought.post(one, other);
            }
            thought.passDay();
        }
        return thought.homes();
    }

    // ---- the host

    public int sheet(int sheet, int sort, int n) {
        Sheet row = sheetNumbered(sheet);
        if (row == null || sort < Sheet.MISSING || sort > Sheet.INTS) {
            return BAD;
        }
        if (sort == Sheet.MISSING) {
            row.become(sort, 0);
            return 1;
        }
        if (n > Sheet.MOST) {
            return BAD;
        }
        if (n < 0) {
            return BELOW_NONE;
        }
        row.become(sort, n);
        return 1;
    }

    public int cell(int sheet, int i, int v) {
        Sheet row = sheetNumbered(sheet);
        if (row == null) {
            return BAD;
        }
        if (row.isMissing()) {
            return NOTHING;
        }
        if (!row.has(i)) {
            return OUTSIDE;
        }
        row.put(i, v);
        return 1;
    }

    public int copy(int sheet, int i, int other, int j, int n) {
        Sheet row = sheetNumbered(sheet);
        Sheet target = sheetNumbered(other);
        if (row == null || target == null) {
            return BAD;
        }
        if (row.isMissing() || target.isMissing()) {
            return NOTHING;
        }
        if (row.sort != target.sort) {
            return UNLIKE;
        }
        if (!row.hasRun(i, n) || !target.hasRun(j, n)) {
            return OUTSIDE;
        }
        System.arraycopy(row.items, i, target.items, j, n);
        return n;
    }

    public int hill(int sheet, int sort, int from, int n) {
        Sheet row = sheetNumbered(sheet);
        if (row == null || sort < 0 || sort > Sheet.INTS || n < 0 || n > 5) {
            return BAD;
        }
        // As a cast lets a null pass, a missing sheet is of no other sort.
        if (!row.isMissing() && row.sort != sort) {
            return UNLIKE;
        }
        if (row.isMissing()) {
            return NOTHING;
        }
        int came = 0;
        int place = from;
        for (int i = 0; i < n; i++) {
            if (!row.hasRun(place, 3)) {
                return OUTSIDE;
            }
            if (person(row.item(place), row.item(place + 1), row.item(place + 2)) >= 0) {
                came++;
            }
            place += 3;
        }
        return came;
    }

    public int taken(int one, int k) {
        if (k < 0 || k > Village.TOP) {
            return BAD;
        }
        if (!now.isOne(one)) {
            return NOTHING;
        }
        return Village.isUnder(now.kindOf(one), k) ? now.numberOf(one) : UNLIKE;
    }

    private Sheet sheetNumbered(int sheet) {
        return sheet >= 0 && sheet < sheets.length ? sheets[sheet] : null;
    }

    /** What an image keeps and a thought changes: day, slip, rule, people, letters. */
    private static final class Village {
        static final int MOST_PEOPLE = 5, MOST_LETTERS = 8, HOUSES = 8, TONE_MOST = 99;
        static final int HOME = -1;
        static final int WIDOW = 1, BAKER = 2, ORD = 3, KEEPER = 4, TOP = 5, KINDS = 6;
        private static final int[] ABOVE = {-1, 0, 0, 1, 2, 0};

        private final Texts texts;
        int day;
        int slip = 1;
        int rule;
        int people;
        int letters;
        /** Who, in a thought, carry nothing, as bits. */
        int keeping;
        private final int[] kind = new int[MOST_PEOPLE];
        private final int[] number = new int[MOST_PEOPLE];
        private final int[] house = new int[MOST_PEOPLE];
        private final int[] from = new int[MOST_LETTERS];
        private final int[] to = new int[MOST_LETTERS];
        private final int[] at = new int[MOST_LETTERS];
        private final int[] tone = new int[MOST_LETTERS];
        private final int[] read = new int[MOST_LETTERS];

        Village(Texts texts) {
            this.texts = texts;
        }

        void takeOver(Village other) {
            day = other.day;
            slip = other.slip;
            rule = other.rule;
            people = other.people;
            letters = other.letters;
            keeping = 0;
            for (int one = 0; one < MOST_PEOPLE; one++) {
                kind[one] = other.kind[one];
                number[one] = other.number[one];
                house[one] = other.house[one];
            }
            for (int letter = 0; letter < MOST_LETTERS; letter++) {
                from[letter] = other.from[letter];
                to[letter] = other.to[letter];
                at[letter] = other.at[letter];
                tone[letter] = other.tone[letter];
                read[letter] = other.read[letter];
            }
        }

        boolean isOne(int one) {
            return one >= 0 && one < people && one < MOST_PEOPLE;
        }

        boolean areTwo(int one, int other) {
            return isOne(one) && isOne(other) && one != other;
        }

        boolean isLetter(int letter) {
            return letter >= 0 && letter < letters && letter < MOST_LETTERS;
        }

        boolean hasRoom() {
            return letters < MOST_LETTERS;
        }

        int kindOf(int one) {
            return isOne(one) ? kind[one] : NONE;
        }

        int numberOf(int one) {
            return isOne(one) ? number[one] : NONE;
        }

        int houseOf(int one) {
            return isOne(one) ? house[one] : NONE;
        }

        int fromWhom(int letter) {
            return isLetter(letter) ? from[letter] : NONE;
        }

        int toWhom(int letter) {
            return isLetter(letter) ? to[letter] : NONE;
        }

        int whereIs(int letter) {
            return isLetter(letter) ? at[letter] : NONE;
        }

        int toneOf(int letter) {
            return isLetter(letter) ? tone[letter] : 0;
        }

        int readBy(int letter) {
            return isLetter(letter) ? read[letter] : 0;
        }

        void changeKind(int one, int v) {
            if (isOne(one)) {
                kind[one] = v;
            }
        }

        void changeNumber(int one, int v) {
            if (isOne(one)) {
                number[one] = v;
            }
        }

        void changeTone(int letter, int v) {
            if (isLetter(letter)) {
                tone[letter] = v;
            }
        }

        void moveTo(int one, int v) {
            if (isOne(one)) {
                house[one] = v;
            }
        }

        int livesIn(int place) {
            for (int one = 0; one < people && one < MOST_PEOPLE; one++) {
                if (house[one] == place) {
                    return one;
                }
            }
            return NONE;
        }

        int known(int one) {
            int bits = 0;
            for (int letter = 0; letter < letters && letter < MOST_LETTERS; letter++) {
                if ((read[letter] >> one & 1) != 0) {
                    bits |= 1 << letter;
                }
            }
            return bits;
        }

        int homes() {
            int many = 0;
            for (int letter = 0; letter < letters && letter < MOST_LETTERS; letter++) {
                if (at[letter] == HOME) {
                    many++;
                }
            }
            return many;
        }

        int comesToLive(int newKind, int newNumber, int newHouse) {
            int one = people;
            if (one < 0 || one >= MOST_PEOPLE) {
                return FULL;
            }
            kind[one] = newKind;
            number[one] = newNumber;
            house[one] = newHouse;
            people++;
            return one;
        }

        int post(int one, int other) {
            int letter = letters;
            if (letter < 0 || letter >= MOST_LETTERS) {
                return FULL;
            }
            from[letter] = one;
            to[letter] = other;
            at[letter] = (houseOf(other) + slip) % HOUSES;
            tone[letter] = toneWritten(one);
            read[letter] = 1 << one;
            letters++;
            return letter;
        }

        void slipAll(int by) {
            for (int letter = 0; letter < letters && letter < MOST_LETTERS; letter++) {
                if (at[letter] != HOME) {
                    at[letter] = (houseOf(to[letter]) + by) % HOUSES;
                }
            }
        }

        int passDay() {
            int cameHome = 0;
            for (int letter = 0; letter < letters && letter < MOST_LETTERS; letter++) {
                if (goesDown(letter)) {
                    cameHome |= 1 << letter;
                }
            }
            day++;
            return cameHome;
        }

        void passDays(int n) {
            for (int i = 0; i < n; i++) {
                passDay();
            }
        }

        /** A day of one letter alone: no letter's way hangs on another's. */
        void passDayOf(int letter) {
            goesDown(letter);
            day++;
        }

        int readBehind(int letter, int n) {
            for (int i = 0; i < n; i++) {
                passDayOf(letter);
            }
            return readBy(letter);
        }

        /** Days pass until a letter is not where the sheet tells it (by passDayOf() calls would go too deep). */
        int firstOtherwise(Sheet row, int letter) {
            for (int i = 0; i < row.size; i++) {
                goesDown(letter);
                day++;
                if (whereIs(letter) != row.item(i)) {
                    return i;
                }
            }
            return NONE;
        }

        /** A letter's part of a day: whether it comes home by it. */
        private boolean goesDown(int letter) {
            if (!isLetter(letter) || at[letter] == HOME) {
                return false;
            }
            int one = livesIn(at[letter]);
            if (one != NONE) {
                read[letter] |= 1 << one;
                if (one == to[letter]) {
                    at[letter] = HOME;
                    return true;
                }
                if (!carries(one, letter)) {
                    return false;
                }
                tone[letter] = bounded(tone[letter] - softens(one, letter), 0);
            }
            at[letter] = (at[letter] + HOUSES - 1) % HOUSES;
            return false;
        }

        boolean carries(int one, int letter) {
            if (!isOne(one) || !isLetter(letter) || (keeping >> one & 1) != 0) {
                return false;
            }
            boolean yes = ruled(Texts.CARRIES, one, letter) != 0;
            boolean asWidow = yes || tone[letter] >= 50;
            boolean asBaker = yes && from[letter] != one;
            switch (kind[one]) {
                case WIDOW: return asWidow;
                case BAKER: return asBaker;
                case ORD: return asWidow && day % 7 != number[one];
                case KEEPER: return asBaker && number[one] <= 4;
                case TOP: return true;
                default: return yes;
            }
        }

        int softens(int one, int letter) {
            if (!isOne(one) || !isLetter(letter)) {
                return 0;
            }
            int v = ruled(Texts.SOFTENS, one, letter);
            switch (kind[one]) {
                case WIDOW: return 2 * v;
                case BAKER: return v + number[one];
                case ORD: return tone[letter] > 20 ? 2 * v : 0;
                case KEEPER: return -(v + number[one]);
                case TOP: return 0;
                default: return v;
            }
        }

        int toneWritten(int one) {
            if (!isOne(one)) {
                return 0;
            }
            int v = ruled(Texts.WRITES, one, NONE);
            switch (kind[one]) {
                case WIDOW:
                case ORD: return v / 2;
                case BAKER:
                case KEEPER: return TONE_MOST - v;
                case TOP: return 10 * number[one];
                default: return v;
            }
        }

        /** What the rule tells of one and a letter; NONE is the letter that is only being written. */
        private int ruled(int part, int one, int letter) {
            texts.tone = toneOf(letter);
            texts.house = houseOf(one);
            texts.number = numberOf(one);
            texts.day = day;
            texts.read = Integer.bitCount(readBy(letter));
            texts.mine = isLetter(letter) && from[letter] == one ? 1 : 0;
            return bounded(texts.value(rule, part), part == Texts.WRITES ? 0 : -TONE_MOST);
        }

        private static int bounded(int v, int least) {
            return Math.max(least, Math.min(TONE_MOST, v));
        }

        static boolean isUnder(int kind, int other) {
            int above = kind;
            for (int turn = 0; turn < KINDS && above >= 0 && above < ABOVE.length; turn++) {
                if (above == other) {
                    return true;
                }
                above = ABOVE[above];
            }
            return false;
        }
    }

    /** The texts, as codes in the order in which they are worked out, and what their names stand for. */
    private static final class Texts {
        static final int MOST = 6;
        static final int CARRIES = 0, SOFTENS = 1, WRITES = 2, PARTS = 3;
        /** Codes from 0 up are numbers, -1 .. -6 the names in the document's order. */
        static final int FIRST_NAME = -1, NAMES = 6;
        static final int OR = -11, AND = -12, LESS = -13, LIKE = -14, PLUS = -15, MINUS = -16, TIMES = -17;
        static final int NOT = -21, NEGATE = -22;

        int size;
        int tone;
        int house;
        int number;
        int day;
        int read;
        int mine;
        private final int[] codes = new int[MOST * Tape.MOST];
        /** Where each part of each text begins; it ends where the next one begins. */
        private final int[] begins = new int[MOST * PARTS + 1];
        private int end;
        private final int[] stack = new int[64];

        boolean hasRoom() {
            return size < MOST;
        }

        boolean isText(int text) {
            return text >= 0 && text < size && text < MOST;
        }

        /** What a text left behind that had a fault is written over. */
        void begin() {
            end = hasRoom() ? begins[size * PARTS] : codes.length;
        }

        void add(int code) {
            if (end >= 0 && end < codes.length) {
                codes[end] = code;
                end++;
            }
        }

        void endPart(int part) {
            int i = size * PARTS + part + 1;
            if (i >= 0 && i < begins.length) {
                begins[i] = end;
            }
        }

        void keep() {
            if (hasRoom()) {
                size++;
            }
        }

        int value(int text, int part) {
            int first = text * PARTS + part;
            if (!isText(text) || first < 0 || first + 1 >= begins.length) {
                return 0;
            }
            int top = 0;
            for (int i = Math.max(0, begins[first]); i < begins[first + 1] && i < codes.length; i++) {
                int code = codes[i];
                int takes = code > OR ? 0 : code > NOT ? 2 : 1;
                if (top < takes || top >= stack.length) {
                    return 0;
                }
                int right = takes > 0 ? stack[top - 1] : 0;
                int left = takes > 1 ? stack[top - 2] : 0;
                top -= takes;
                stack[top] = code >= 0 ? code : takes == 0 ? named(code) : joined(code, left, right);
                top++;
            }
            return top > 0 ? stack[0] : 0;
        }

        private int named(int code) {
            switch (FIRST_NAME - code) {
                case 0: return tone;
                case 1: return house;
                case 2: return number;
                case 3: return day;
                case 4: return read;
                default: return mine;
            }
        }

        private static int joined(int code, int left, int right) {
            switch (code) {
                case OR: return left != 0 || right != 0 ? 1 : 0;
                case AND: return left != 0 && right != 0 ? 1 : 0;
                case LESS: return left < right ? 1 : 0;
                case LIKE: return left == right ? 1 : 0;
                case PLUS: return left + right;
                case MINUS: return left - right;
                case TIMES: return left * right;
                case NOT: return right == 0 ? 1 : 0;
                default: return -right;
            }
        }
    }

    /** The tape, and how a text is read from it, token by token. */
    private static final class Tape {
        static final int MOST = 160;
        private static final int MOST_OPEN = 5, MOST_DIGITS = 4;
        /** A token is one of these, or a sign's own byte, or WORD and more: the word's number. */
        private static final int ENDS = 0, NUMBER = 1, OTHER = 2, WORD = 256;
        private static final int WORDS = 12;
        private static final int WORD_CARRIES = WORD + 6, WORD_OR = WORD + 9, WORD_AND = WORD + 10, WORD_NOT = WORD + 11;

        int size;
        private final Texts texts;
        private final int[] bytes = new int[MOST];
        private int token;
        private int start;
        private int next;
        private int number;
        private int fault;

        Tape(Texts texts) {
            this.texts = texts;
        }

        boolean add(int letter) {
            if (size < 0 || size >= MOST) {
                return false;
            }
            bytes[size] = letter;
            size++;
            return true;
        }

        void addAll(String letters) {
            for (int i = 0; i < letters.length(); i++) {
                add(letters.charAt(i));
            }
        }

        /** The tape becomes a text more, or not, and is empty then: the place of the fault, or NONE. */
        int read() {
            fault = NONE;
            next = 0;
            advance();
            texts.begin();
            for (int part = 0; part < Texts.PARTS; part++) {
                expect(WORD_CARRIES + part);
                readOr(0);
                expect(';');
                texts.endPart(part);
            }
            expect(ENDS);
            if (fault == NONE) {
                texts.keep();
            }
            size = 0;
            return fault;
        }

        private void readOr(int open) {
            readAnd(open);
            for (int turn = 0; turn < MOST && token == WORD_OR; turn++) {
                advance();
                readAnd(open);
                texts.add(Texts.OR);
            }
        }

        private void readAnd(int open) {
            readNot(open);
            for (int turn = 0; turn < MOST && token == WORD_AND; turn++) {
                advance();
                readNot(open);
                texts.add(Texts.AND);
            }
        }

        private void readNot(int open) {
            if (token == WORD_NOT) {
                if (opens(open)) {
                    readNot(open + 1);
                    texts.add(Texts.NOT);
                }
                return;
            }
            readSum(open);
            if (token == '<' || token == '=') {
                int code = token == '<' ? Texts.LESS : Texts.LIKE;
                advance();
                readSum(open);
                texts.add(code);
            }
        }

        private void readSum(int open) {
            readTerm(open);
            for (int turn = 0; turn < MOST && (token == '+' || token == '-'); turn++) {
                int code = token == '+' ? Texts.PLUS : Texts.MINUS;
                advance();
                readTerm(open);
                texts.add(code);
            }
        }

        private void readTerm(int open) {
            readOne(open);
            for (int turn = 0; turn < MOST && token == '*'; turn++) {
                advance();
                readOne(open);
                texts.add(Texts.TIMES);
            }
        }

        private void readOne(int open) {
            if (token == NUMBER) {
                texts.add(number);
                advance();
            } else if (token >= WORD && token < WORD + Texts.NAMES) {
                texts.add(Texts.FIRST_NAME - (token - WORD));
                advance();
            } else if (token == '-') {
                if (opens(open)) {
                    readOne(open + 1);
                    texts.add(Texts.NEGATE);
                }
            } else if (token == '(') {
                if (opens(open)) {
                    readOr(open + 1);
                    expect(')');
                }
            } else {
                refuse();
            }
        }

        private boolean opens(int open) {
            if (open >= MOST_OPEN) {
                refuse();
                return false;
            }
            advance();
            return true;
        }

        private void expect(int what) {
            if (token != what) {
                refuse();
            } else if (token != ENDS) {
                advance();
            }
        }

        /** Only the first fault counts: behind it stands a token that fits nowhere. */
        private void refuse() {
            if (fault == NONE) {
                fault = start;
            }
            token = OTHER;
        }

        private void advance() {
            for (int turn = 0; turn < MOST && isBlank(byteAt(next)); turn++) {
                next++;
            }
            start = next;
            int first = byteAt(next);
            if (first == NONE) {
                token = ENDS;
            } else if (isWordByte(first)) {
                readWord();
            } else if (isDigit(first)) {
                readNumber();
            } else {
                token = isSign(first) ? first : OTHER;
                next++;
            }
        }

        private void readWord() {
            for (int turn = 0; turn < MOST && isWordByte(byteAt(next)); turn++) {
                next++;
            }
            token = OTHER;
            for (int i = 0; i < WORDS; i++) {
                if (stands(word(i))) {
                    token = WORD + i;
                }
            }
        }

        private void readNumber() {
            number = 0;
            for (int turn = 0; turn < MOST && isDigit(byteAt(next)); turn++) {
                number = number * 10 + byteAt(next) - '0';
                next++;
            }
            token = next - start <= MOST_DIGITS ? NUMBER : OTHER;
        }

        private boolean stands(String word) {
            if (word.length() != next - start) {
                return false;
            }
            for (int i = 0; i < word.length(); i++) {
                if (word.charAt(i) != byteAt(start + i)) {
                    return false;
                }
            }
            return true;
        }

        private int byteAt(int i) {
            return i >= 0 && i < size && i < MOST ? bytes[i] : NONE;
        }

        private static String word(int i) {
            switch (i) {
                case 0: return "tone";
                case 1: return "house";
                case 2: return "number";
                case 3: return "day";
                case 4: return "read";
                case 5: return "mine";
                case 6: return "carries";
                case 7: return "softens";
                case 8: return "writes";
                case 9: return "or";
                case 10: return "and";
                default: return "not";
            }
        }

        private static boolean isBlank(int letter) {
            return letter == 32 || letter == 10;
        }

        private static boolean isWordByte(int letter) {
            return letter >= 'a' && letter <= 'z';
        }

        private static boolean isDigit(int letter) {
            return letter >= '0' && letter <= '9';
        }

        private static boolean isSign(int letter) {
            return letter == '(' || letter == ')' || letter == ';' || letter == '+'
                || letter == '-' || letter == '*' || letter == '<' || letter == '=';
        }
    }

    /** A row of numbers of a sort, or missing. */
    private static final class Sheet {
        static final int MOST = 40;
        static final int MISSING = -1, BYTES = 0, SHORTS = 1, INTS = 2;

        int sort = MISSING;
        int size;
        final int[] items = new int[MOST];

        void become(int newSort, int n) {
            sort = newSort;
            size = Math.max(0, Math.min(MOST, n));
            for (int i = 0; i < items.length; i++) {
                items[i] = 0;
            }
        }

        boolean isMissing() {
            return sort == MISSING;
        }

        boolean has(int i) {
            return i >= 0 && i < size && i < MOST;
        }

        /** Whether n items stand there from item i on; written so that no sum can wrap. */
        boolean hasRun(int i, int n) {
            return i >= 0 && n >= 0 && i <= size && n <= size - i;
        }

        int item(int i) {
            return has(i) ? items[i] : 0;
        }

        void put(int i, int v) {
            if (has(i)) {
                items[i] = sort == BYTES ? (byte) v : sort == SHORTS ? (short) v : v;
            }
        }
    }
}
