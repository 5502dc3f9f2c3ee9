import java.util.Arrays;
import java.util.NoSuchElementException;

/** Heirs under a bell with ferns, as the document's promises tell; its words in capitals stand in small letters here. */
public final class FernHeirs {
    public static final int NONE = -1;

    private static final int MOST_HEIRS = 7;
    private static final int MOST_TWOS = 12;
    private static final int MOST_KEEPERS = 6;
    private static final int MOST_CLAUSES = 60;
    private static final int MOST_LINES = 6;
    private static final int MOST_OPEN = 6;
    private static final int MOST_BEGUN = 200;
    private static final int MOST_WORKS = 16;
    private static final int MOST_IMAGES = 3;
    private static final int MOST_BREATH = 9;
    private static final int MOST_FERNS = 9;
    private static final int MOST_CRACKS = 3;

    private static final int FED_BYTES = 20;
    private static final int TAPE_BYTES = 600;
    private static final int LAW_BYTES = 150;
    private static final int WORK_BYTES = 150;
    private static final int BOOK_BYTES = 60;

    private static final int FULL = 99;
    private static final int CLOUDED_MIST = 50;
    private static final int MOST_CLOUD = 40;
    private static final int MORE_AIR = 40;
    private static final int DAY = 24;
    private static final int USUAL_SUN = 12;
    private static final int BOOK_HOURS = 12;
    private static final int CLOUDS_HOURS = 48;
    private static final int CLOSED_HOUR = 900;
    private static final int PAIRS = MOST_BREATH * (MOST_FERNS + 1);
    private static final int NO_WORK_LEFT = -20;

    private static final int FAULT_STAND = 1;
    private static final int FAULT_NUMBER = 2;
    private static final int FAULT_MANY = 3;
    private static final int FAULT_LESS = 10;

    // The first five are in the order in which a year draws them.
    private static final int TAP = 0;
    private static final int WIPE = 1;
    private static final int AIR = 2;
    private static final int LIFT = 3;
    private static final int LOWER = 4;
    private static final int CRACK = 5;
    private static final int FERN = 6;
    private static final int HOUR = 7;
    private static final int DAWN = 8;
    private static final int AGAIN = 9;
    private static final int DRAWN_STEPS = 5;

    private final Text text = new Text();
    private final Steps steps = new Steps();
    private final History history = new History();
    private final History[] images = new History[MOST_IMAGES];
    private final Morning then = new Morning();
    private final Morning wiped = new Morning();
    private final Rows rows = new Rows();
    private final Pairs pairs = new Pairs();
    private Court members = new Court();
    private Court spareMembers = new Court();
    private Law rule = new Law();
    private Law spareRule = new Law();
    private Book lines = new Book();
    private Book spareLines = new Book();
    private int imagesKept;
    private int stepsRefused;
    private int missed;
    private int wrong;

    public FernHeirs() {
        for (int i = 0; i < MOST_IMAGES; i++) {
            images[i] = new History();
        }
        history.begin(members);
        rule.beUsual();
    }

    // ---- texts ----

    public int feed(int a, int b, int c, int d, int e) {
        if (text.filled + FED_BYTES > TAPE_BYTES) {
            return NONE;
        }
        text.append(a);
        text.append(b);
        text.append(c);
        text.append(d);
        text.append(e);
        return text.filled;
    }

    public int court(int n) throws IllegalArgumentException {
        beginText(n, TAPE_BYTES);
        if (!spareMembers.read(text)) {
            return text.fault - FAULT_LESS;
        }
        Court read = spareMembers;
        spareMembers = members;
        members = read;
        rule.beUsual();
        lines.clear();
        history.begin(members);
        imagesKept = 0;
        stepsRefused = 0;
        return members.heirs;
    }

    public int law(int n) throws IllegalArgumentException {
        beginText(n, LAW_BYTES);
        if (!spareRule.read(text)) {
            return text.fault - FAULT_LESS;
        }
        Law read = spareRule;
        spareRule = rule;
        rule = read;
        return 1;
    }

    public int work(int n) throws IllegalArgumentException {
        beginText(n, WORK_BYTES);
        if (history.works >= MOST_WORKS) {
            return NO_WORK_LEFT;
        }
        if (!steps.read(text, members.heirs)) {
            return text.fault - FAULT_LESS;
        }
        history.keep();
        steps.run(history.now, members, rule);
        stepsRefused = steps.refused;
        return steps.done;
    }

    public int book(int n) throws IllegalArgumentException {
        beginText(n, BOOK_BYTES);
        if (!spareLines.read(text)) {
            return text.fault - FAULT_LESS;
        }
        Book read = spareLines;
        spareLines = lines;
        lines = read;
        return lines.many;
    }

    public int fault() {
        return text.place;
    }

    public int undo() {
        if (history.works <= 0) {
            return NONE;
        }
        history.takeBack();
        stepsRefused = 0;
        return history.works;
    }

    // ---- how it stands ----

    public int told(int what) throws IllegalArgumentException {
        needWithin(what, 0, 11);
        Morning now = history.now;
        switch (what) {
            case 0: return members.heirs;
            case 1: return members.twos;
            case 2: return members.keepers;
            case 3: return now.hour;
            case 4: return now.standing();
            case 5: return now.cloudedHeirs();
            case 6: return now.ranked(0);
            case 7: return members.sun;
            case 8: return sum(now.gasps);
            case 9: return lines.many;
            case 10: return stepsRefused;
            default: return sum(now.mist);
        }
    }

    public int heir(int heir, int what) throws NoSuchElementException, IllegalArgumentException {
        needHeir(heir);
        needWithin(what, 0, 9);
        Morning now = history.now;
        switch (what) {
            case 0: return now.breath[heir];
            case 1: return now.ferns[heir];
            case 2: return now.mist[heir];
            case 3: return now.air[heir];
            case 4: return now.cracks[heir];
            case 5: return now.taps[heir];
            case 6: return now.stands[heir];
            case 7: return now.clouded[heir];
            case 8: return now.gasps[heir];
            default: return members.friends[heir];
        }
    }

    public int two(int two, int what) throws NoSuchElementException, IllegalArgumentException {
        needBelow(two, members.twos);
        needWithin(what, 0, 1);
        return what == 0 ? members.twoOne[two] : members.twoOther[two];
    }

    public int keeper(int keeper, int what) throws NoSuchElementException, IllegalArgumentException {
        needBelow(keeper, members.keepers);
        needWithin(what, 0, 2);
        switch (what) {
            case 0: return members.keeperHeir[keeper];
            case 1: return members.keeperPace[keeper];
            default: return members.nextCough(keeper, history.now.hour);
        }
    }

    public int cloud(int heir) throws NoSuchElementException {
        needHeir(heir);
        return history.now.comesOn(heir, members.sun, rule);
    }

    public int would(int breath, int ferns, int taps, int air, int cracks, int mist, int hour, int sun, int heir)
            throws IllegalArgumentException {
        needWithin(breath, 1, MOST_BREATH);
        needWithin(ferns, 0, MOST_FERNS);
        needWithin(taps, 0, 999);
        needWithin(air, 0, FULL);
        needWithin(cracks, 0, MOST_CRACKS);
        needWithin(mist, 0, FULL);
        needWithin(hour, 0, DAY - 1);
        needWithin(sun, 0, 1);
        needWithin(heir, 0, MOST_HEIRS - 1);
        rule.setHeir(breath, ferns, heir);
        rule.setGlass(taps, air, cracks, mist);
        rule.setHour(hour, sun);
        return rule.comes();
    }

    public int rank(int k) throws IllegalArgumentException {
        needWithin(k, 0, MOST_HEIRS - 1);
        return history.now.ranked(k);
    }

    public int greenest(int what) throws IllegalArgumentException {
        needWithin(what, 0, 1);
        int[] mist = history.now.mist;
        int best = mostOf(mist);
        if (mist[best] == 0) {
            return NONE;
        }
        return what == 0 ? best : mist[best];
    }

    public int stalest(int what) throws IllegalArgumentException {
        needWithin(what, 0, 1);
        if (members.heirs == 0) {
            return NONE;
        }
        int[] air = history.now.air;
        int best = 0;
        for (int h = 1; h < members.heirs; h++) {
            if (air[h] < air[best]) {
                best = h;
            }
        }
        return what == 0 ? best : air[best];
    }

    public int coughs(int heir, int n) throws NoSuchElementException, IllegalArgumentException {
        needHeir(heir);
        needWithin(n, 0, 99);
        int many = 0;
        for (int passed = 0; passed < n; passed++) {
            many += members.coughsBeside(heir, history.now.hour + passed);
        }
        return many;
    }

    public int twins(int what) throws IllegalArgumentException {
        needWithin(what, 0, 1);
        Morning now = history.now;
        int many = 0;
        int first = NONE;
        for (int one = 0; one < members.heirs; one++) {
            for (int other = one + 1; other < members.heirs; other++) {
                if (now.breath[one] == now.breath[other] && now.ferns[one] == now.ferns[other]) {
                    many++;
                    first = first == NONE ? 10 * one + other : first;
                }
            }
        }
        return what == 0 ? many : first;
    }

    public int sunny() {
        return Math.floorMod(members.sun - history.now.hour, DAY);
    }

    // ---- hours ahead ----

    public int ahead(int n, int what) throws IllegalArgumentException {
        needWithin(n, 0, 99);
        needWithin(what, 0, 3);
        then.copy(history.now);
        then.passHours(n, members, rule);
        switch (what) {
            case 0: return sum(then.mist);
            case 1: return then.cloudedHeirs();
            case 2: return then.ranked(0);
            default: return sum(then.gasps);
        }
    }

    public int clouds(int heir) throws NoSuchElementException {
        needHeir(heir);
        then.copy(history.now);
        for (int passed = 0; passed <= CLOUDS_HOURS; passed++) {
            if (then.mist[heir] >= CLOUDED_MIST) {
                return passed;
            }
            then.passHour(members, rule, true);
        }
        return NONE;
    }

    public int wipes(int heir) throws NoSuchElementException {
        needHeir(heir);
        then.copy(history.now);
        then.beginDawn();
        then.passHours(DAY, members, rule);
        wiped.copy(history.now);
        wiped.beginDawn();
        Arrays.fill(wiped.mist, 0);
        wiped.passHours(DAY, members, rule);
        return leastWiped(heir);
    }

    // No glass changes what comes on another one: so each other heir is looked at alone, wiped only where it must be.
    private int leastWiped(int heir) {
        int due = then.clouded[heir];
        if (due == NONE) {
            return NONE;
        }
        int bits = 0;
        for (int h = 0; h < members.heirs; h++) {
            if (h != heir && isAhead(then.clouded[h], h, due, heir)) {
                if (isAhead(wiped.clouded[h], h, due, heir)) {
                    return NONE;
                }
                bits |= 1 << h;
            }
        }
        return bits;
    }

    public int gasp(int heir) throws NoSuchElementException {
        needHeir(heir);
        then.copy(history.now);
        int before = then.gasps[heir];
        for (int passed = 1; passed <= 99; passed++) {
            then.passHour(members, rule, true);
            if (then.gasps[heir] > before) {
                return passed;
            }
        }
        return NONE;
    }

    public int year(int seed, int hours, int what) throws IllegalArgumentException {
        needWithin(hours, 1, 96);
        needWithin(what, 0, 3);
        passYear(seed, hours);
        switch (what) {
            case 0: return sum(then.mist);
            case 1: return then.ranked(0);
            case 2: return yearGasps();
            default: return then.standing();
        }
    }

    public int span(int seed, int many, int hours, int what) throws IllegalArgumentException {
        needWithin(many, 1, 20);
        needWithin(hours, 1, 96);
        needWithin(what, 0, 2);
        int fewest = 0;
        int most = 0;
        int elders = 0;
        for (int i = 0; i < many; i++) {
            passYear(seed + i, hours);
            int gasps = yearGasps();
            fewest = i == 0 ? gasps : Math.min(fewest, gasps);
            most = Math.max(most, gasps);
            elders += then.ranked(0) == NONE ? 0 : 1;
        }
        switch (what) {
            case 0: return fewest;
            case 1: return most;
            default: return elders;
        }
    }

    private void passYear(int seed, int hours) {
        then.copy(history.now);
        int drawn = seed;
        for (int passed = 0; passed < hours; passed++) {
            if (members.heirs > 0) {
                drawn = drawnAfter(drawn);
                int heir = drawnBy(drawn, members.heirs);
                drawn = drawnAfter(drawn);
                then.tryStep(drawnBy(drawn, DRAWN_STEPS), heir, 0, members, rule);
            }
            then.passHour(members, rule, true);
        }
    }

    private int yearGasps() {
        return sum(then.gasps) - sum(history.now.gasps);
    }

    private static int drawnAfter(int seed) {
        return seed * 1103515245 + 12345;
    }

    private static int drawnBy(int seed, int choices) {
        return choices > 0 ? (seed >>> 16 & 32767) % choices : 0;
    }

    // ---- taps passed on ----

    public int way(int heir, int other) throws NoSuchElementException {
        needHeir(heir);
        needHeir(other);
        return members.tapsBetween(heir, other);
    }

    public int hush(int heir, int other) throws NoSuchElementException, IllegalArgumentException {
        needHeir(heir);
        needHeir(other);
        need(heir != other);
        if (members.areTwo(heir, other)) {
            return NONE;
        }
        int ends = 1 << heir | 1 << other;
        int best = members.all() & ~ends;
        for (int bits = 0; bits <= members.all(); bits++) {
            if ((bits & ends) == 0 && Integer.bitCount(bits) < Integer.bitCount(best)
                    && (members.reached(heir, bits) & 1 << other) == 0) {
                best = bits;
            }
        }
        return best;
    }

    public int still() {
        int best = 0;
        for (int bits = 0; bits <= members.all(); bits++) {
            if (Integer.bitCount(bits) > Integer.bitCount(best) && members.isStill(bits)) {
                best = bits;
            }
        }
        return best;
    }

    public int seats() {
        rows.find(members);
        return rows.inAll();
    }

    public int seat(int k) throws IllegalArgumentException {
        need(k >= 0);
        rows.find(members);
        return rows.firstOn(k, members);
    }

    public int ear(int heir) throws NoSuchElementException {
        needHeir(heir);
        return members.reached(heir, 0);
    }

    public int gossip(int what) throws IllegalArgumentException {
        needWithin(what, 0, 1);
        if (members.twos == 0) {
            return NONE;
        }
        int best = 0;
        for (int h = 1; h < members.heirs; h++) {
            if (members.friendsOf(h) > members.friendsOf(best)) {
                best = h;
            }
        }
        return what == 0 ? best : members.friendsOf(best);
    }

    // ---- which child it was ----

    public int fits(int heir, int what) throws NoSuchElementException, IllegalArgumentException {
        needHeir(heir);
        needWithin(what, 0, 1);
        findPairs(heir);
        return what == 0 ? pairs.many : pairs.first;
    }

    public int look(int heir, int what) throws NoSuchElementException, IllegalArgumentException {
        needHeir(heir);
        needWithin(what, 0, 1);
        findPairs(heir);
        int best = NONE;
        int fewest = NONE;
        for (int hour = 1; hour <= BOOK_HOURS; hour++) {
            if (lines.mistAfter[hour] == NONE) {
                int worst = pairs.mostAlike(hour);
                if (best == NONE || worst < fewest) {
                    best = hour;
                    fewest = worst;
                }
            }
        }
        return what == 0 ? best : fewest;
    }

    private void findPairs(int heir) {
        pairs.clear();
        for (int breath = 1; breath <= MOST_BREATH; breath++) {
            for (int ferns = 0; ferns <= MOST_FERNS; ferns++) {
                then.beAlone(history.now.hour, heir, breath, ferns);
                for (int hour = 1; hour <= BOOK_HOURS; hour++) {
                    then.passHour(members, rule, false);
                    pairs.note(hour, then.mist[heir]);
                }
                pairs.keepIfRight(lines, 10 * breath + ferns);
            }
        }
    }

    // ---- sums ----

    public int lots(int n, int k, int m, int part) throws IllegalArgumentException {
        needWithin(n, 1, 20);
        needWithin(k, 0, n);
        needWithin(m, 0, n);
        needWithin(part, 0, 1);
        int below = choices(n, m);
        int above = below - choices(n - k, m);
        int shared = commonDivisor(above, below);
        if (shared <= 0) {
            return NONE;
        }
        return part == 0 ? above / shared : below / shared;
    }

    private static int choices(int n, int m) {
        int many = 1;
        for (int i = 0; i < m; i++) {
            many = many * (n - i) / (i + 1);
        }
        return many;
    }

    private static int commonDivisor(int one, int other) {
        int high = Math.max(one, other);
        int low = Math.min(one, other);
        for (int turn = 0; turn < 100 && low > 0; turn++) {
            int left = high % low;
            high = low;
            low = left;
        }
        return high;
    }

    public int regents(int v, int w, int what) throws IllegalArgumentException {
        needWithin(v, 0, 99);
        needWithin(w, 0, 99);
        needWithin(what, 0, 2);
        int many = 0;
        int first = NONE;
        for (int one = 0; one <= 1; one++) {
            for (int other = 0; other <= 1; other++) {
                if (rests(one, other, v, w)) {
                    many++;
                    first = first == NONE ? 10 * one + other : first;
                }
            }
        }
        switch (what) {
            case 0: return many;
            case 1: return first;
            default: return first == NONE ? 0 : bothHave(first / 10, first % 10, v, w);
        }
    }

    private static int bothHave(int one, int other, int v, int w) {
        return regentHas(one, other, v, w) + regentHas(other, one, v, w);
    }

    private static boolean rests(int one, int other, int v, int w) {
        return regentHas(one, other, v, w) >= regentHas(1 - one, other, v, w)
                && regentHas(other, one, v, w) >= regentHas(1 - other, one, v, w);
    }

    /** What a regent has who wipes (0) or not (1), by what the other one does. */
    private static int regentHas(int own, int others, int v, int w) {
        if (own == others) {
            return own == 0 ? 0 : v;
        }
        return own == 0 ? w : -1;
    }

    public int moss(int heir, int heirs, int n) throws NoSuchElementException, IllegalArgumentException {
        needHeir(heir);
        need((heirs & ~members.all()) == 0);
        needWithin(n, 0, 99);
        if ((heirs & 1 << heir) == 0) {
            return 0;
        }
        int bound = MOST_BREATH;
        for (int i = MOST_BREATH; i > 0 && members.mossBy(heirs, bound) > n; i--) {
            bound = i - 1;
        }
        return Math.min(members.breath[heir], bound);
    }

    public int backward(int n) throws IllegalArgumentException {
        needWithin(n, 0, 99999999);
        int turned = 0;
        int left = n;
        for (int digit = 0; digit < 8 && left > 0; digit++) {
            turned = turned * 10 + left % 10;
            left /= 10;
        }
        return turned;
    }

    // ---- what is kept ----

    public int image() {
        if (imagesKept >= MOST_IMAGES) {
            return NONE;
        }
        images[imagesKept].copy(history);
        imagesKept++;
        return imagesKept;
    }

    public int restore() {
        if (imagesKept <= 0) {
            return NONE;
        }
        imagesKept--;
        history.copy(images[imagesKept]);
        stepsRefused = 0;
        return imagesKept;
    }

    public int status(int what) {
        switch (what) {
            case 0: return missed;
            case 1: return wrong;
            default: return NONE;
        }
    }

    public int count(int what) {
        switch (what) {
            case 0: return imagesKept;
            case 1: return text.filled;
            case 2: return history.works;
            default: return NONE;
        }
    }

    // ---- what calls need ----

    /** The first n bytes of the tape are the text that is read next; they are on the tape no more. */
    private void beginText(int n, int most) throws IllegalArgumentException {
        needWithin(n, 0, Math.min(most, text.filled));
        text.begin(n);
    }

    private void need(boolean right) throws IllegalArgumentException {
        if (!right) {
            wrong++;
            throw new IllegalArgumentException();
        }
    }

    private void needWithin(int number, int least, int most) throws IllegalArgumentException {
        need(number >= least && number <= most);
    }

    private void needBelow(int number, int many) throws NoSuchElementException {
        if (number < 0 || number >= many) {
            missed++;
            throw new NoSuchElementException();
        }
    }

    private void needHeir(int heir) throws NoSuchElementException {
        needBelow(heir, members.heirs);
    }

    private static int sum(int[] numbers) {
        int sum = 0;
        for (int number : numbers) {
            sum += number;
        }
        return sum;
    }

    private static int mostOf(int[] numbers) {
        int best = 0;
        for (int i = 1; i < numbers.length; i++) {
            if (numbers[i] > numbers[best]) {
                best = i;
            }
        }
        return best;
    }

    /** Whether an heir who clouded in an hour (or in NONE) is elder than one who clouded in the other hour. */
    private static boolean isAhead(int hour, int heir, int otherHour, int other) {
        return hour != NONE && (hour < otherHour || hour == otherHour && heir < other);
    }

    // ---- the classes ----

    /** The tape, and how far the text on it is read: its fault is the first from the left. */
    private static final class Text {
        private final byte[] bytes = new byte[TAPE_BYTES];
        private int filled;
        private int end;
        private int at;
        private int start;
        private int fault;
        private int place = NONE;

        void append(int number) {
            for (int shift = 24; shift >= 0 && filled < bytes.length; shift -= 8) {
                bytes[filled] = (byte) (number >> shift);
                filled++;
            }
        }

        void begin(int n) {
            end = Math.min(n, bytes.length);
            filled = 0;
            at = 0;
            start = 0;
            fault = 0;
            place = NONE;
        }

        /** The next byte that is no blank, where what is read next starts; NONE at the end. */
        int peek() {
            while (at < end && bytes[at] == ' ') {
                at++;
            }
            start = at;
            return at < end ? bytes[at] & 255 : NONE;
        }

        boolean refuse(int kind) {
            fault = kind;
            place = start;
            return false;
        }

        boolean takeSign(char sign) {
            if (peek() != sign) {
                return false;
            }
            at++;
            return true;
        }

        boolean needSign(char sign) {
            if (peek() != sign) {
                return refuse(FAULT_STAND);
            }
            at++;
            return true;
        }

        boolean needEnd() {
            return peek() == NONE || refuse(FAULT_STAND);
        }

        boolean takeWord(String word) {
            peek();
            int length = word.length();
            if (length > end - at) {
                return false;
            }
            for (int i = 0; i < length; i++) {
                if (bytes[at + i] != word.charAt(i)) {
                    return false;
                }
            }
            int behind = at + length;
            if (behind < end && bytes[behind] >= 'a' && bytes[behind] <= 'z') {
                return false;
            }
            at = behind;
            return true;
        }

        /** The number that stands next; NONE, with a fault, if none does or it is none such. */
        int number(int least, int most) {
            int ahead = peek();
            if (ahead < '0' || ahead > '9') {
                refuse(FAULT_STAND);
                return NONE;
            }
            int number = 0;
            for (; at < end && bytes[at] >= '0' && bytes[at] <= '9'; at++) {
                // Any number of five digits is too great already; so it never wraps.
                number = Math.min(number * 10 + bytes[at] - '0', 10000);
            }
            if (number < least || number > most) {
                refuse(FAULT_NUMBER);
                return NONE;
            }
            return number;
        }
    }

    /** A court: heirs, who hears whom, keepers, and the hour of the sun. */
    private static final class Court {
        private final int[] breath = new int[MOST_HEIRS];
        private final int[] ferns = new int[MOST_HEIRS];
        private final int[] friends = new int[MOST_HEIRS];
        private final int[] twoOne = new int[MOST_TWOS];
        private final int[] twoOther = new int[MOST_TWOS];
        private final int[] keeperHeir = new int[MOST_KEEPERS];
        private final int[] keeperPace = new int[MOST_KEEPERS];
        private int heirs;
        private int twos;
        private int keepers;
        private int sun = USUAL_SUN;

        boolean read(Text text) {
            heirs = 0;
            twos = 0;
            keepers = 0;
            sun = USUAL_SUN;
            Arrays.fill(friends, 0);
            for (int clause = 0; clause <= MOST_CLAUSES && text.peek() != NONE; clause++) {
                if (!readClause(text, clause >= MOST_CLAUSES) || !text.needSign(';')) {
                    return false;
                }
            }
            return true;
        }

        private boolean readClause(Text text, boolean tooMany) {
            if (text.takeWord("heir")) {
                return tooMany || heirs >= MOST_HEIRS ? text.refuse(FAULT_MANY) : readHeir(text);
            }
            if (text.takeWord("hears")) {
                return tooMany || twos >= MOST_TWOS ? text.refuse(FAULT_MANY) : readTwo(text);
            }
            if (text.takeWord("keeper")) {
                return tooMany || keepers >= MOST_KEEPERS ? text.refuse(FAULT_MANY) : readKeeper(text);
            }
            if (text.takeWord("sun")) {
                return tooMany ? text.refuse(FAULT_MANY) : readSun(text);
            }
            return text.refuse(FAULT_STAND);
        }

        private boolean readHeir(Text text) {
            int breathTold = text.number(1, MOST_BREATH);
            int fernsTold = breathTold == NONE ? NONE : text.number(0, MOST_FERNS);
            if (fernsTold == NONE) {
                return false;
            }
            breath[heirs] = breathTold;
            ferns[heirs] = fernsTold;
            heirs++;
            return true;
        }

        private boolean readTwo(Text text) {
            int one = text.number(0, heirs - 1);
            int other = one == NONE ? NONE : text.number(0, heirs - 1);
            if (other == NONE) {
                return false;
            }
            if (one == other || areTwo(one, other)) {
                return text.refuse(FAULT_NUMBER);
            }
            twoOne[twos] = one;
            twoOther[twos] = other;
            twos++;
            friends[one] |= 1 << other;
            friends[other] |= 1 << one;
            return true;
        }

        private boolean readKeeper(Text text) {
            int heir = text.number(0, heirs - 1);
            int pace = heir == NONE ? NONE : text.number(1, DAY);
            if (pace == NONE) {
                return false;
            }
            keeperHeir[keepers] = heir;
            keeperPace[keepers] = pace;
            keepers++;
            return true;
        }

        private boolean readSun(Text text) {
            int hour = text.number(0, DAY - 1);
            if (hour == NONE) {
                return false;
            }
            sun = hour;
            return true;
        }

        int all() {
            return (1 << heirs) - 1;
        }

        boolean areTwo(int one, int other) {
            return (friends[one] & 1 << other) != 0;
        }

        int friendsOf(int heir) {
            return Integer.bitCount(friends[heir]);
        }

        /** In how many hours from this hour on the keeper coughs next. */
        int nextCough(int keeper, int hour) {
            int pace = keeperPace[keeper];
            return pace > 0 ? Math.floorMod(-hour, pace) : 0;
        }

        int coughsBeside(int heir, int hour) {
            int many = 0;
            for (int k = 0; k < keepers; k++) {
                if (keeperHeir[k] == heir && nextCough(k, hour) == 0) {
                    many++;
                }
            }
            return many;
        }

        /** These heirs, and all who are a two with one of them. */
        private int spread(int bits) {
            int more = bits;
            for (int h = 0; h < heirs; h++) {
                if ((bits & 1 << h) != 0) {
                    more |= friends[h];
                }
            }
            return more;
        }

        int reached(int heir, int without) {
            int bits = 1 << heir;
            for (int h = 0; h < heirs; h++) {
                bits = spread(bits) & ~without;
            }
            return bits;
        }

        int tapsBetween(int heir, int other) {
            int bits = 1 << heir;
            for (int taps = 0; taps < heirs; taps++) {
                if ((bits & 1 << other) != 0) {
                    return taps;
                }
                bits = spread(bits);
            }
            return NONE;
        }

        boolean isStill(int bits) {
            for (int h = 0; h < heirs; h++) {
                if ((bits & 1 << h) != 0 && (bits & friends[h]) != 0) {
                    return false;
                }
            }
            return true;
        }

        /** How much moss these heirs get by a bound. */
        int mossBy(int bits, int bound) {
            int given = 0;
            for (int h = 0; h < heirs; h++) {
                if ((bits & 1 << h) != 0) {
                    given += Math.min(breath[h], bound);
                }
            }
            return given;
        }
    }

    /** A law, kept in the order in which a stack works it off. */
    private static final class Law {
        private static final int NUMBER = 0;
        private static final int VALUE = 1;
        private static final int LEAST = 2;
        private static final int MOST = 3;

        private static final int BREATH_NOW = 0;
        private static final int FERNS_NOW = 1;
        private static final int TAPS_NOW = 2;
        private static final int AIR_NOW = 3;
        private static final int CRACKS_NOW = 4;
        private static final int MIST_NOW = 5;
        private static final int HOUR_NOW = 6;
        private static final int SUN_NOW = 7;
        private static final int HEIR_NOW = 8;
        private static final int VALUES = 9;

        private final int[] kinds = new int[LAW_BYTES];
        private final int[] numbers = new int[LAW_BYTES];
        private final int[] stack = new int[LAW_BYTES];
        private final int[] values = new int[VALUES];
        private int size;

        void beUsual() {
            size = 0;
            add(VALUE, BREATH_NOW);
            add(NUMBER, 2);
            add('*', 0);
            add(VALUE, FERNS_NOW);
            add('+', 0);
            add(VALUE, TAPS_NOW);
            add('-', 0);
        }

        private void add(int kind, int number) {
            // Each byte of a law brings one at most, so there is always room.
            if (size < LAW_BYTES) {
                kinds[size] = kind;
                numbers[size] = number;
                size++;
            }
        }

        boolean read(Text text) {
            size = 0;
            return readSum(text, 0) && text.needEnd();
        }

        private boolean readSum(Text text, int open) {
            boolean right = readProduct(text, open);
            for (int turn = 0; right && turn < LAW_BYTES; turn++) {
                int sign = text.peek();
                if (sign != '+' && sign != '-') {
                    return true;
                }
                right = text.needSign((char) sign) && readProduct(text, open);
                add(sign, 0);
            }
            return right;
        }

        private boolean readProduct(Text text, int open) {
            boolean right = readUnit(text, open);
            for (int turn = 0; right && turn < LAW_BYTES; turn++) {
                int sign = text.peek();
                if (sign != '*' && sign != '/' && sign != '%') {
                    return true;
                }
                right = text.needSign((char) sign) && readUnit(text, open);
                add(sign, 0);
            }
            return right;
        }

        private boolean readUnit(Text text, int open) {
            if (text.takeSign('(')) {
                return open >= MOST_OPEN ? text.refuse(FAULT_MANY)
                        : readSum(text, open + 1) && text.needSign(')');
            }
            int either = text.takeWord("least") ? LEAST : text.takeWord("most") ? MOST : NONE;
            if (either != NONE) {
                return open >= MOST_OPEN ? text.refuse(FAULT_MANY) : readEither(text, open + 1, either);
            }
            int value = valueAhead(text);
            if (value != NONE) {
                add(VALUE, value);
                return true;
            }
            int number = text.number(0, 999);
            add(NUMBER, number);
            return number != NONE;
        }

        private boolean readEither(Text text, int open, int either) {
            boolean right = text.needSign('[') && readSum(text, open)
                    && text.needSign(',') && readSum(text, open)
                    && text.needSign(']');
            add(either, 0);
            return right;
        }

        private static int valueAhead(Text text) {
            return text.takeWord("breath") ? BREATH_NOW
                    : text.takeWord("ferns") ? FERNS_NOW
                    : text.takeWord("taps") ? TAPS_NOW
                    : text.takeWord("air") ? AIR_NOW
                    : text.takeWord("cracks") ? CRACKS_NOW
                    : text.takeWord("mist") ? MIST_NOW
                    : text.takeWord("hour") ? HOUR_NOW
                    : text.takeWord("sun") ? SUN_NOW
                    : text.takeWord("heir") ? HEIR_NOW
                    : NONE;
        }

        void setHeir(int breath, int ferns, int heir) {
            values[BREATH_NOW] = breath;
            values[FERNS_NOW] = ferns;
            values[HEIR_NOW] = heir;
        }

        void setGlass(int taps, int air, int cracks, int mist) {
            values[TAPS_NOW] = taps;
            values[AIR_NOW] = air;
            values[CRACKS_NOW] = cracks;
            values[MIST_NOW] = mist;
        }

        void setHour(int hour, int sun) {
            values[HOUR_NOW] = hour;
            values[SUN_NOW] = sun;
        }

        /** What comes on a glass in an hour, by the values that were set. */
        int comes() {
            int top = 0;
            for (int i = 0; i < size && top < LAW_BYTES; i++) {
                int kind = kinds[i];
                int number = numbers[i];
                if (kind == NUMBER) {
                    stack[top] = number;
                    top++;
                } else if (kind == VALUE) {
                    stack[top] = number >= 0 && number < VALUES ? values[number] : 0;
                    top++;
                } else if (top >= 2) {
                    top--;
                    stack[top - 1] = joined(kind, stack[top - 1], stack[top]);
                }
            }
            return Math.max(0, Math.min(MOST_CLOUD, stack[0]));
        }

        private static int joined(int kind, int left, int right) {
            switch (kind) {
                case '+': return left + right;
                case '-': return left - right;
                case '*': return left * right;
                case '/': return right == 0 ? 0 : left / right;
                case '%': return right == 0 ? 0 : left % right;
                case LEAST: return left < right ? left : right;
                default: return left > right ? left : right;
            }
        }
    }

    /** How it stands under the bell in an hour. An heir who is not there has no glass that stands. */
    private static final class Morning {
        private final int[] breath = new int[MOST_HEIRS];
        private final int[] ferns = new int[MOST_HEIRS];
        private final int[] mist = new int[MOST_HEIRS];
        private final int[] air = new int[MOST_HEIRS];
        private final int[] cracks = new int[MOST_HEIRS];
        private final int[] taps = new int[MOST_HEIRS];
        private final int[] stands = new int[MOST_HEIRS];
        private final int[] clouded = new int[MOST_HEIRS];
        private final int[] gasps = new int[MOST_HEIRS];
        private int hour;

        void begin(Court court) {
            hour = 0;
            for (int h = 0; h < MOST_HEIRS; h++) {
                breath[h] = court.breath[h];
                ferns[h] = court.ferns[h];
                mist[h] = 0;
                air[h] = FULL;
                cracks[h] = 0;
                taps[h] = 0;
                stands[h] = h < court.heirs ? 1 : 0;
                clouded[h] = NONE;
                gasps[h] = 0;
            }
        }

        void copy(Morning other) {
            hour = other.hour;
            System.arraycopy(other.breath, 0, breath, 0, MOST_HEIRS);
            System.arraycopy(other.ferns, 0, ferns, 0, MOST_HEIRS);
            System.arraycopy(other.mist, 0, mist, 0, MOST_HEIRS);
            System.arraycopy(other.air, 0, air, 0, MOST_HEIRS);
            System.arraycopy(other.cracks, 0, cracks, 0, MOST_HEIRS);
            System.arraycopy(other.taps, 0, taps, 0, MOST_HEIRS);
            System.arraycopy(other.stands, 0, stands, 0, MOST_HEIRS);
            System.arraycopy(other.clouded, 0, clouded, 0, MOST_HEIRS);
            System.arraycopy(other.gasps, 0, gasps, 0, MOST_HEIRS);
        }

        /** Only the glass of this heir stands, as a fresh one, from this hour on. */
        void beAlone(int fromHour, int heir, int itsBreath, int itsFerns) {
            hour = fromHour;
            Arrays.fill(stands, 0);
            stands[heir] = 1;
            breath[heir] = itsBreath;
            ferns[heir] = itsFerns;
            mist[heir] = 0;
            air[heir] = FULL;
            cracks[heir] = 0;
            taps[heir] = 0;
        }

        int standing() {
            int bits = 0;
            for (int h = 0; h < MOST_HEIRS; h++) {
                bits |= stands[h] << h;
            }
            return bits;
        }

        int cloudedHeirs() {
            int bits = 0;
            for (int h = 0; h < MOST_HEIRS; h++) {
                bits |= clouded[h] == NONE ? 0 : 1 << h;
            }
            return bits;
        }

        int ranked(int k) {
            for (int h = 0; h < MOST_HEIRS; h++) {
                if (clouded[h] != NONE && elderThan(h) == k) {
                    return h;
                }
            }
            return NONE;
        }

        /** How many are elder than one who clouded. */
        private int elderThan(int heir) {
            int many = 0;
            for (int h = 0; h < MOST_HEIRS; h++) {
                if (isAhead(clouded[h], h, clouded[heir], heir)) {
                    many++;
                }
            }
            return many;
        }

        /** Does a step, if it can be done: whether it was. */
        boolean tryStep(int kind, int heir, int number, Court court, Law law) {
            switch (kind) {
                case TAP: return passTap(heir, court.friends[heir]);
                case WIPE: return wipeGlass(heir);
                case AIR: return changeAir(heir);
                case LIFT: return liftGlass(heir);
                case LOWER: return lowerGlass(heir);
                case CRACK: return crackGlass(heir);
                case FERN: return setFerns(heir, number);
                case HOUR: return hour < CLOSED_HOUR && passHour(court, law, true);
                default: return kind == DAWN && beginDawn();
            }
        }

        private boolean passTap(int heir, int friends) {
            for (int h = 0; h < MOST_HEIRS; h++) {
                if (stands[heir] == 1 && stands[h] == 1 && (friends & 1 << h) != 0) {
                    taps[h]++;
                }
            }
            return stands[heir] == 1;
        }

        private boolean wipeGlass(int heir) {
            boolean can = mist[heir] > 0;
            mist[heir] = 0;
            return can;
        }

        private boolean changeAir(int heir) {
            boolean can = stands[heir] == 1 && air[heir] < FULL;
            air[heir] = can ? Math.min(FULL, air[heir] + MORE_AIR) : air[heir];
            return can;
        }

        private boolean liftGlass(int heir) {
            if (stands[heir] == 0) {
                return false;
            }
            stands[heir] = 0;
            mist[heir] = 0;
            air[heir] = FULL;
            taps[heir] = 0;
            return true;
        }

        private boolean lowerGlass(int heir) {
            boolean can = stands[heir] == 0;
            stands[heir] = 1;
            return can;
        }

        private boolean crackGlass(int heir) {
            boolean can = stands[heir] == 1 && cracks[heir] < MOST_CRACKS;
            cracks[heir] += can ? 1 : 0;
            return can;
        }

        private boolean setFerns(int heir, int number) {
            boolean can = ferns[heir] != number;
            ferns[heir] = number;
            return can;
        }

        boolean beginDawn() {
            Arrays.fill(clouded, NONE);
            return true;
        }

        void passHours(int many, Court court, Law law) {
            for (int passed = 0; passed < many; passed++) {
                passHour(court, law, true);
            }
        }

        /** An hour goes by, with or without the coughs of keepers. */
        boolean passHour(Court court, Law law, boolean coughing) {
            for (int k = 0; coughing && k < court.keepers; k++) {
                int beside = court.keeperHeir[k];
                if (stands[beside] == 1 && court.nextCough(k, hour) == 0) {
                    taps[beside]++;
                }
            }
            for (int h = 0; h < MOST_HEIRS; h++) {
                if (stands[h] == 1) {
                    mist[h] = Math.min(FULL, mist[h] + comesOn(h, court.sun, law));
                    air[h] = Math.max(0, Math.min(FULL, air[h] - breath[h] + ferns[h]));
                    gasps[h] += air[h] == 0 ? 1 : 0;
                    clouded[h] = mist[h] >= CLOUDED_MIST && clouded[h] == NONE ? hour : clouded[h];
                }
            }
            Arrays.fill(taps, 0);
            hour++;
            return true;
        }

        int comesOn(int h, int sun, Law law) {
            if (stands[h] == 0) {
                return 0;
            }
            int hourOfDay = hour % DAY;
            law.setHeir(breath[h], ferns[h], h);
            law.setGlass(taps[h], air[h], cracks[h], mist[h]);
            law.setHour(hourOfDay, hourOfDay == sun ? 1 : 0);
            return law.comes();
        }
    }

    /** A work: its steps in a row, an again followed by what it holds, up to its end. */
    private static final class Steps {
        private final int[] kinds = new int[WORK_BYTES];
        private final int[] heirOf = new int[WORK_BYTES];
        private final int[] numbers = new int[WORK_BYTES];
        private final int[] ends = new int[WORK_BYTES];
        private int size;
        private int begun;
        private int done;
        private int refused;

        boolean read(Text text, int heirs) {
            size = 0;
            return readRow(text, heirs, 0) && text.needEnd();
        }

        private boolean readRow(Text text, int heirs, int open) {
            for (int turn = 0; turn < WORK_BYTES; turn++) {
                int sign = text.peek();
                if (sign == NONE || sign == ']') {
                    return true;
                }
                if (!readStep(text, heirs, open) || !text.needSign(';')) {
                    return false;
                }
            }
            return true;
        }

        private boolean readStep(Text text, int heirs, int open) {
            int kind = kindAhead(text);
            if (kind == NONE) {
                return text.refuse(FAULT_STAND);
            }
            // A step has more bytes than one, so there is always room for it.
            if (kind == AGAIN && open >= MOST_OPEN || size >= WORK_BYTES) {
                return text.refuse(FAULT_MANY);
            }
            int step = size;
            size++;
            kinds[step] = kind;
            heirOf[step] = 0;
            numbers[step] = 0;
            ends[step] = size;
            if (kind == HOUR || kind == DAWN) {
                return true;
            }
            if (kind == AGAIN) {
                return readAgain(text, heirs, open + 1, step);
            }
            heirOf[step] = text.number(0, heirs - 1);
            if (kind == FERN && heirOf[step] != NONE) {
                numbers[step] = text.number(0, MOST_FERNS);
                return numbers[step] != NONE;
            }
            return heirOf[step] != NONE;
        }

        private boolean readAgain(Text text, int heirs, int open, int step) {
            numbers[step] = text.number(0, 30);
            boolean right = numbers[step] != NONE && text.needSign('[')
                    && readRow(text, heirs, open) && text.needSign(']');
            ends[step] = size;
            return right;
        }

        private static int kindAhead(Text text) {
            return text.takeWord("wipe") ? WIPE
                    : text.takeWord("lift") ? LIFT
                    : text.takeWord("lower") ? LOWER
                    : text.takeWord("crack") ? CRACK
                    : text.takeWord("air") ? AIR
                    : text.takeWord("tap") ? TAP
                    : text.takeWord("fern") ? FERN
                    : text.takeWord("hour") ? HOUR
                    : text.takeWord("dawn") ? DAWN
                    : text.takeWord("again") ? AGAIN
                    : NONE;
        }

        void run(Morning morning, Court court, Law law) {
            begun = 0;
            done = 0;
            refused = 0;
            runRow(0, size, 0, morning, court, law);
        }

        private void runRow(int from, int to, int open, Morning morning, Court court, Law law) {
            int step = from;
            for (int turn = 0; turn < WORK_BYTES && step < to && step < size && begun < MOST_BEGUN; turn++) {
                begun++;
                if (kinds[step] == AGAIN) {
                    runAgain(step, open + 1, morning, court, law);
                    step = ends[step];
                } else {
                    boolean can = morning.tryStep(kinds[step], heirOf[step], numbers[step], court, law);
                    done += can ? 1 : 0;
                    refused += can ? 0 : 1;
                    step++;
                }
            }
        }

        private void runAgain(int step, int open, Morning morning, Court court, Law law) {
            for (int round = 0; round < numbers[step] && begun < MOST_BEGUN && open <= MOST_OPEN; round++) {
                runRow(step + 1, ends[step], open, morning, court, law);
            }
        }
    }

    /** A book: how much mist there was after which hours; NONE where no line tells it. */
    private static final class Book {
        private final int[] mistAfter = new int[BOOK_HOURS + 1];
        private int many;

        Book() {
            Arrays.fill(mistAfter, NONE);
        }

        void clear() {
            Arrays.fill(mistAfter, NONE);
            many = 0;
        }

        boolean read(Text text) {
            clear();
            for (int line = 0; line <= MOST_LINES && text.peek() != NONE; line++) {
                if (!readLine(text) || !text.needSign(';')) {
                    return false;
                }
            }
            return true;
        }

        private boolean readLine(Text text) {
            int hour = text.number(1, BOOK_HOURS);
            if (hour == NONE) {
                return false;
            }
            if (mistAfter[hour] != NONE) {
                return text.refuse(FAULT_NUMBER);
            }
            if (many >= MOST_LINES) {
                return text.refuse(FAULT_MANY);
            }
            mistAfter[hour] = text.number(0, FULL);
            many++;
            return mistAfter[hour] != NONE;
        }
    }

    /** How it stands, and how it stood ahead of each work that can be undone. */
    private static final class History {
        private final Morning now = new Morning();
        private final Morning[] before = new Morning[MOST_WORKS];
        private int works;

        History() {
            for (int i = 0; i < MOST_WORKS; i++) {
                before[i] = new Morning();
            }
        }

        void begin(Court court) {
            now.begin(court);
            works = 0;
        }

        void copy(History other) {
            now.copy(other.now);
            works = other.works;
            for (int i = 0; i < works && i < MOST_WORKS; i++) {
                before[i].copy(other.before[i]);
            }
        }

        void keep() {
            if (works < MOST_WORKS) {
                before[works].copy(now);
                works++;
            }
        }

        void takeBack() {
            if (works > 0) {
                works--;
                now.copy(before[works]);
            }
        }
    }

    /** In how many ways a row goes on behind those who sit, by who sits last. */
    private static final class Rows {
        private static final int WIDE = MOST_HEIRS + 1;
        private static final int NOBODY = MOST_HEIRS;

        private final int[] ways = new int[(1 << MOST_HEIRS) * WIDE];

        void find(Court court) {
            int all = court.all();
            for (int bits = all; bits >= 0; bits--) {
                for (int last = 0; last <= NOBODY; last++) {
                    ways[bits * WIDE + last] = bits == all ? 1 : waysBehind(bits, last, court);
                }
            }
        }

        private int waysBehind(int bits, int last, Court court) {
            int many = 0;
            for (int h = 0; h < court.heirs; h++) {
                if (mayFollow(bits, last, h, court)) {
                    many += ways[(bits | 1 << h) * WIDE + h];
                }
            }
            return many;
        }

        private static boolean mayFollow(int bits, int last, int h, Court court) {
            return (bits & 1 << h) == 0 && (last == NOBODY || !court.areTwo(last, h));
        }

        int inAll() {
            return ways[NOBODY];
        }

        /** Who sits on a seat of the first row; NONE without such a row or seat. */
        int firstOn(int seat, Court court) {
            if (seat >= court.heirs) {
                return NONE;
            }
            int bits = 0;
            int last = NOBODY;
            for (int k = 0; k <= seat; k++) {
                last = firstBehind(bits, last, court);
                if (last == NOBODY) {
                    return NONE;
                }
                bits |= 1 << last;
            }
            return last;
        }

        private int firstBehind(int bits, int last, Court court) {
            for (int h = 0; h < court.heirs; h++) {
                if (mayFollow(bits, last, h, court) && ways[(bits | 1 << h) * WIDE + h] > 0) {
                    return h;
                }
            }
            return NOBODY;
        }
    }

    /** Pairs of a breath and ferns by which all lines are right, with the mist they bring hour by hour. */
    private static final class Pairs {
        private final int[][] mists = new int[PAIRS][BOOK_HOURS + 1];
        private final int[] alike = new int[FULL + 1];
        private int many;
        private int first;

        void clear() {
            many = 0;
            first = NONE;
        }

        void note(int hour, int mist) {
            if (many < PAIRS) {
                mists[many][hour] = mist;
            }
        }

        /** Keeps the pair whose mist was noted; a wrong one is written over. */
        void keepIfRight(Book book, int pair) {
            if (many >= PAIRS) {
                return;
            }
            for (int hour = 1; hour <= BOOK_HOURS; hour++) {
                if (book.mistAfter[hour] != NONE && book.mistAfter[hour] != mists[many][hour]) {
                    return;
                }
            }
            many++;
            first = first == NONE ? pair : first;
        }

        /** How many pairs bring the same mist after an hour, at the most. */
        int mostAlike(int hour) {
            Arrays.fill(alike, 0);
            for (int i = 0; i < many; i++) {
                alike[mists[i][hour]]++;
            }
            return alike[mostOf(alike)];
        }
    }
}
