import java.math.BigInteger;
import java.util.ArrayList;
import java.util.HashMap;
import java.util.List;
import java.util.Map;
import java.util.NoSuchElementException;
import java.util.Set;
import java.util.regex.Matcher;
import java.util.regex.Pattern;

/**
 * The document again, written apart from the class and in the plainest form: lists that are copied whole, a law worked
 * off its words each time, all sets and all rows tried out. Random runs compare the class with it.
 */
final class PlainModel {
    /** A fault of a text. */
    static final class Fault extends Exception {
        private static final long serialVersionUID = 1;
        final int kind;
        final int place;

        Fault(int kind, int place) {
            this.kind = kind;
            this.place = place;
        }
    }

    /** A number, a word or another sign of a text; the last one of each text is its end, without letters. */
    record Token(String letters, int place, int value) {
        boolean isNumber() {
            return value >= 0;
        }

        boolean is(String what) {
            return letters.equals(what);
        }
    }

    private static final Pattern TOKEN = Pattern.compile(" |([0-9]+)|[a-z]+|.", Pattern.DOTALL);
    private static final Set<String> VALUES =
            Set.of("breath", "ferns", "taps", "air", "cracks", "mist", "hour", "sun", "heir");
    private static final Set<String> STEPS =
            Set.of("wipe", "lift", "lower", "crack", "air", "tap", "fern", "hour", "dawn", "again");

    static List<Token> tokens(String text) {
        List<Token> all = new ArrayList<>();
        Matcher found = TOKEN.matcher(text);
        while (found.find()) {
            if (!found.group().equals(" ")) {
                all.add(new Token(found.group(), found.start(), found.group(1) == null ? -1 : value(found.group(1))));
            }
        }
        all.add(new Token("", text.length(), -1));
        return all;
    }

    private static int value(String digits) {
        return new BigInteger(digits).min(BigInteger.valueOf(Integer.MAX_VALUE)).intValue();
    }

    /** Reads tokens from the left; the first that is wrong is the fault. */
    static final class Reader {
        final List<Token> tokens;
        int next = 0;

        Reader(String text) {
            tokens = tokens(text);
        }

        Token ahead() {
            return tokens.get(next);
        }

        boolean atEnd() {
            return ahead().is("");
        }

        Fault fault(int kind) {
            return new Fault(kind, ahead().place());
        }

        void sign(String sign) throws Fault {
            if (!ahead().is(sign)) {
                throw fault(1);
            }
            next++;
        }

        int number(int least, int most) throws Fault {
            if (!ahead().isNumber()) {
                throw fault(1);
            }
            int n = ahead().value();
            if (n < least || n > most) {
                throw fault(2);
            }
            next++;
            return n;
        }
    }

    static final class Glass implements Cloneable {
        int breath, ferns, mist, air = 99, cracks, taps, clouded = -1, gasps;
        boolean stands = true;

        Glass copy() {
            try {
                return (Glass) clone();
            } catch (CloneNotSupportedException e) {
                throw new AssertionError(e);
            }
        }
    }

    /** The bell at one time. */
    final class Bell {
        List<Glass> glasses = new ArrayList<>();
        int hour = 0;

        Bell copy() {
            Bell other = new Bell();
            other.hour = hour;
            for (Glass g : glasses) {
                other.glasses.add(g.copy());
            }
            return other;
        }

        boolean step(String kind, int h, int n) {
            if (kind.equals("dawn")) {
                for (Glass g : glasses) {
                    g.clouded = -1;
                }
                return true;
            }
            if (kind.equals("hour")) {
                if (hour >= 900) {
                    return false;
                }
                pass(true);
                return true;
            }
            Glass g = glasses.get(h);
            switch (kind) {
                case "wipe":
                    if (g.mist == 0) {
                        return false;
                    }
                    g.mist = 0;
                    return true;
                case "lift":
                    if (!g.stands) {
                        return false;
                    }
                    g.stands = false;
                    g.mist = 0;
                    g.air = 99;
                    g.taps = 0;
                    return true;
                case "lower":
                    if (g.stands) {
                        return false;
                    }
                    g.stands = true;
                    return true;
                case "crack":
                    if (!g.stands || g.cracks == 3) {
                        return false;
                    }
                    g.cracks++;
                    return true;
                case "air":
                    if (!g.stands || g.air == 99) {
                        return false;
                    }
                    g.air = Math.min(99, g.air + 40);
                    return true;
                case "tap":
                    if (!g.stands) {
                        return false;
                    }
                    for (int[] two : twos) {
                        int other = two[0] == h ? two[1] : two[1] == h ? two[0] : -1;
                        if (other >= 0 && glasses.get(other).stands) {
                            glasses.get(other).taps++;
                        }
                    }
                    return true;
                case "fern":
                    if (g.ferns == n) {
                        return false;
                    }
                    g.ferns = n;
                    return true;
                default:
                    throw new AssertionError(kind);
            }
        }

        int cloud(int h) {
            Glass g = glasses.get(h);
            if (!g.stands) {
                return 0;
            }
            int day = hour % 24;
            return PlainModel.this.cloudBy(g.breath, g.ferns, g.taps, g.air, g.cracks, g.mist, day, day == sun ? 1 : 0, h);
        }

        void pass(boolean coughs) {
            for (int[] k : keepers) {
                if (coughs && hour % k[1] == 0 && glasses.get(k[0]).stands) {
                    glasses.get(k[0]).taps++;
                }
            }
            for (int h = 0; h < glasses.size(); h++) {
                Glass g = glasses.get(h);
                if (!g.stands) {
                    continue;
                }
                g.mist = Math.min(99, g.mist + cloud(h));
                g.air = Math.min(99, Math.max(0, g.air - g.breath + g.ferns));
                g.gasps += g.air == 0 ? 1 : 0;
                if (g.mist >= 50 && g.clouded < 0) {
                    g.clouded = hour;
                }
            }
            for (Glass g : glasses) {
                g.taps = 0;
            }
            hour++;
        }

        Bell after(int hours) {
            Bell b = copy();
            for (int i = 0; i < hours; i++) {
                b.pass(true);
            }
            return b;
        }

        List<Integer> ranks() {
            List<Integer> all = new ArrayList<>();
            for (int h = 0; h < glasses.size(); h++) {
                if (glasses.get(h).clouded >= 0) {
                    all.add(h);
                }
            }
            all.sort((a, b) -> glasses.get(a).clouded != glasses.get(b).clouded
                    ? glasses.get(a).clouded - glasses.get(b).clouded : a - b);
            return all;
        }

        int elder() {
            return ranks().isEmpty() ? -1 : ranks().get(0);
        }

        int cloudedBits() {
            return ranks().stream().mapToInt(h -> 1 << h).sum();
        }

        int mist() {
            return glasses.stream().mapToInt(g -> g.mist).sum();
        }

        int gasps() {
            return glasses.stream().mapToInt(g -> g.gasps).sum();
        }

        int standing() {
            int bits = 0;
            for (int h = 0; h < glasses.size(); h++) {
                bits += glasses.get(h).stands ? 1 << h : 0;
            }
            return bits;
        }
    }

    /** Bells that can be come back to. */
    record Kept(Bell now, List<Bell> before) {
    }

    StringBuilder tape = new StringBuilder();
    int faultPlace = -1;
    int[] refusals = new int[2];
    List<int[]> heirs = new ArrayList<>();
    List<int[]> twos = new ArrayList<>();
    List<int[]> keepers = new ArrayList<>();
    int sun = 12;
    String lawText = "breath * 2 + ferns - taps";
    Map<Integer, Integer> lines = new HashMap<>();
    Bell now = new Bell();
    List<Bell> before = new ArrayList<>();
    List<Kept> images = new ArrayList<>();
    int refusedSteps = 0;

    private void need(boolean right) {
        if (!right) {
            refusals[1]++;
            throw new IllegalArgumentException();
        }
    }

    private void in(int n, int least, int most) {
        need(n >= least && n <= most);
    }

    private void one(int n, List<int[]> of) {
        if (n < 0 || n >= of.size()) {
            refusals[0]++;
            throw new NoSuchElementException();
        }
    }

    // ---- texts ----

    int feed(int[] five) {
        if (tape.length() + 20 > 600) {
            return -1;
        }
        for (int n : five) {
            for (int b = 3; b >= 0; b--) {
                tape.append((char) (n >> 8 * b & 255));
            }
        }
        return tape.length();
    }

    private String text(int n, int most) {
        in(n, 0, Math.min(most, tape.length()));
        String text = tape.substring(0, n);
        tape.setLength(0);
        faultPlace = -1;
        return text;
    }

    private int answer(Fault f) {
        faultPlace = f.place;
        return f.kind - 10;
    }

    int court(int n) {
        String text = text(n, 600);
        List<int[]> newHeirs = new ArrayList<>();
        List<int[]> newTwos = new ArrayList<>();
        List<int[]> newKeepers = new ArrayList<>();
        int newSun = 12;
        try {
            Reader r = new Reader(text);
            for (int clause = 0; !r.atEnd(); clause++) {
                Token word = r.ahead();
                List<int[]> list = word.is("heir") ? newHeirs : word.is("hears") ? newTwos : word.is("keeper") ? newKeepers : null;
                if (list == null && !word.is("sun")) {
                    throw r.fault(1);
                }
                int room = list == newHeirs ? 7 : list == newTwos ? 12 : list == newKeepers ? 6 : 99;
                if (clause >= 60 || list != null && list.size() >= room) {
                    throw r.fault(3);
                }
                r.next++;
                if (list == newHeirs) {
                    list.add(new int[] {r.number(1, 9), r.number(0, 9)});
                } else if (list == newTwos) {
                    int a = r.number(0, newHeirs.size() - 1);
                    Token second = r.ahead();
                    int c = r.number(0, newHeirs.size() - 1);
                    boolean told = newTwos.stream().anyMatch(t -> t[0] == a && t[1] == c || t[0] == c && t[1] == a);
                    if (a == c || told) {
                        throw new Fault(2, second.place());
                    }
                    list.add(new int[] {a, c});
                } else if (list == newKeepers) {
                    list.add(new int[] {r.number(0, newHeirs.size() - 1), r.number(1, 24)});
                } else {
                    newSun = r.number(0, 23);
                }
                r.sign(";");
            }
        } catch (Fault f) {
            return answer(f);
        }
        heirs = newHeirs;
        twos = newTwos;
        keepers = newKeepers;
        sun = newSun;
        lawText = "breath * 2 + ferns - taps";
        lines = new HashMap<>();
        images.clear();
        before.clear();
        refusedSteps = 0;
        now = new Bell();
        for (int[] heir : heirs) {
            Glass g = new Glass();
            g.breath = heir[0];
            g.ferns = heir[1];
            now.glasses.add(g);
        }
        return heirs.size();
    }

    int law(int n) {
        String text = text(n, 150);
        try {
            Reader r = new Reader(text);
            sum(r, new HashMap<>(), 0);
            if (!r.atEnd()) {
                throw r.fault(1);
            }
        } catch (Fault f) {
            return answer(f);
        }
        lawText = text;
        return 1;
    }

    private int sum(Reader r, Map<String, Integer> known, int open) throws Fault {
        int value = product(r, known, open);
        while (r.ahead().is("+") || r.ahead().is("-")) {
            boolean plus = r.tokens.get(r.next++).is("+");
            int more = product(r, known, open);
            value = plus ? value + more : value - more;
        }
        return value;
    }

    private int product(Reader r, Map<String, Integer> known, int open) throws Fault {
        int value = unit(r, known, open);
        while (r.ahead().is("*") || r.ahead().is("/") || r.ahead().is("%")) {
            String sign = r.tokens.get(r.next++).letters();
            long more = unit(r, known, open);
            value = sign.equals("*") ? (int) (value * more)
                    : more == 0 ? 0 : (int) (sign.equals("/") ? value / more : value % more);
        }
        return value;
    }

    private int unit(Reader r, Map<String, Integer> known, int open) throws Fault {
        Token t = r.ahead();
        if (t.isNumber()) {
            return r.number(0, 999);
        }
        boolean round = t.is("(");
        boolean either = t.is("least") || t.is("most");
        if ((round || either) && open == 6) {
            throw r.fault(3);
        }
        if (round) {
            r.next++;
            int value = sum(r, known, open + 1);
            r.sign(")");
            return value;
        }
        if (either) {
            r.next++;
            r.sign("[");
            int a = sum(r, known, open + 1);
            r.sign(",");
            int b = sum(r, known, open + 1);
            r.sign("]");
            return t.is("least") ? Math.min(a, b) : Math.max(a, b);
        }
        if (!VALUES.contains(t.letters())) {
            throw r.fault(1);
        }
        r.next++;
        return known.getOrDefault(t.letters(), 0);
    }

    private Reader lawReader;
    private String lawRead = "";

    int cloudBy(int breath, int ferns, int taps, int air, int cracks, int mist, int hour, int inSun, int heir) {
        Map<String, Integer> known = Map.of("breath", breath, "ferns", ferns, "taps", taps, "air", air,
                "cracks", cracks, "mist", mist, "hour", hour, "sun", inSun, "heir", heir);
        if (!lawRead.equals(lawText)) {
            lawRead = lawText;
            lawReader = new Reader(lawText);
        }
        lawReader.next = 0;
        try {
            return Math.max(0, Math.min(40, sum(lawReader, known, 0)));
        } catch (Fault f) {
            throw new AssertionError(f);
        }
    }

    /** A step of a work; an again holds others. */
    record Step(String kind, int heir, int number, List<Step> held) {
    }

    private List<Step> steps(Reader r, int open) throws Fault {
        List<Step> all = new ArrayList<>();
        while (!r.atEnd() && !r.ahead().is("]")) {
            Token word = r.ahead();
            if (!STEPS.contains(word.letters())) {
                throw r.fault(1);
            }
            if (word.is("again") && open == 6) {
                throw r.fault(3);
            }
            r.next++;
            if (word.is("again")) {
                int many = r.number(0, 30);
                r.sign("[");
                all.add(new Step("again", 0, many, steps(r, open + 1)));
                r.sign("]");
            } else if (word.is("hour") || word.is("dawn")) {
                all.add(new Step(word.letters(), 0, 0, null));
            } else {
                int h = r.number(0, heirs.size() - 1);
                all.add(new Step(word.letters(), h, word.is("fern") ? r.number(0, 9) : 0, null));
            }
            r.sign(";");
        }
        return all;
    }

    private int begun;
    private int done;
    private int refused;

    private void run(List<Step> all) {
        for (Step s : all) {
            if (begun == 200) {
                return;
            }
            begun++;
            if (s.held() != null) {
                for (int i = 0; i < s.number(); i++) {
                    run(s.held());
                }
            } else if (now.step(s.kind(), s.heir(), s.number())) {
                done++;
            } else {
                refused++;
            }
        }
    }

    int work(int n) {
        String text = text(n, 150);
        if (before.size() == 16) {
            return -20;
        }
        List<Step> all;
        try {
            Reader r = new Reader(text);
            all = steps(r, 0);
            if (!r.atEnd()) {
                throw r.fault(1);
            }
        } catch (Fault f) {
            return answer(f);
        }
        before.add(now.copy());
        begun = 0;
        done = 0;
        refused = 0;
        run(all);
        refusedSteps = refused;
        return done;
    }

    int book(int n) {
        String text = text(n, 60);
        Map<Integer, Integer> read = new HashMap<>();
        try {
            Reader r = new Reader(text);
            while (!r.atEnd()) {
                Token first = r.ahead();
                int hour = r.number(1, 12);
                if (read.containsKey(hour)) {
                    throw new Fault(2, first.place());
                }
                if (read.size() == 6) {
                    throw new Fault(3, first.place());
                }
                read.put(hour, r.number(0, 99));
                r.sign(";");
            }
        } catch (Fault f) {
            return answer(f);
        }
        lines = read;
        return lines.size();
    }

    int fault() {
        return faultPlace;
    }

    int undo() {
        if (before.isEmpty()) {
            return -1;
        }
        now = before.remove(before.size() - 1);
        refusedSteps = 0;
        return before.size();
    }

    // ---- how it stands ----

    int told(int what) {
        in(what, 0, 11);
        return new int[] {heirs.size(), twos.size(), keepers.size(), now.hour, now.standing(), now.cloudedBits(),
            now.elder(), sun, now.gasps(), lines.size(), refusedSteps, now.mist()}[what];
    }

    private int friends(int h) {
        int bits = 0;
        for (int[] t : twos) {
            bits |= t[0] == h ? 1 << t[1] : t[1] == h ? 1 << t[0] : 0;
        }
        return bits;
    }

    int heir(int h, int what) {
        one(h, heirs);
        in(what, 0, 9);
        Glass g = now.glasses.get(h);
        return new int[] {g.breath, g.ferns, g.mist, g.air, g.cracks, g.taps, g.stands ? 1 : 0, g.clouded, g.gasps,
            friends(h)}[what];
    }

    int two(int t, int what) {
        one(t, twos);
        in(what, 0, 1);
        return twos.get(t)[what];
    }

    int keeper(int k, int what) {
        one(k, keepers);
        in(what, 0, 2);
        if (what < 2) {
            return keepers.get(k)[what];
        }
        int wait = 0;
        while ((now.hour + wait) % keepers.get(k)[1] != 0) {
            wait++;
        }
        return wait;
    }

    int cloud(int h) {
        one(h, heirs);
        return now.cloud(h);
    }

    int would(int[] a) {
        int[] least = {1, 0, 0, 0, 0, 0, 0, 0, 0};
        int[] most = {9, 9, 999, 99, 3, 99, 23, 1, 6};
        for (int i = 0; i < 9; i++) {
            in(a[i], least[i], most[i]);
        }
        return cloudBy(a[0], a[1], a[2], a[3], a[4], a[5], a[6], a[7], a[8]);
    }

    int rank(int k) {
        in(k, 0, 6);
        return k < now.ranks().size() ? now.ranks().get(k) : -1;
    }

    int ahead(int n, int what) {
        in(n, 0, 99);
        in(what, 0, 3);
        Bell b = now.after(n);
        return new int[] {b.mist(), b.cloudedBits(), b.elder(), b.gasps()}[what];
    }

    int clouds(int h) {
        one(h, heirs);
        Bell b = now.copy();
        for (int n = 0; n <= 48; n++) {
            if (b.glasses.get(h).mist >= 50) {
                return n;
            }
            b.pass(true);
        }
        return -1;
    }

    int wipes(int h) {
        one(h, heirs);
        int best = -1;
        for (int bits = 0; bits < 1 << heirs.size(); bits++) {
            if ((bits & 1 << h) != 0 || (bits & ~now.standing()) != 0
                    || best >= 0 && Integer.bitCount(bits) >= Integer.bitCount(best)) {
                continue;
            }
            Bell b = now.copy();
            for (int o = 0; o < heirs.size(); o++) {
                if ((bits & 1 << o) != 0) {
                    b.glasses.get(o).mist = 0;
                }
            }
            b.step("dawn", 0, 0);
            if (b.after(24).elder() == h) {
                best = bits;
            }
        }
        return best;
    }

    int gasp(int h) {
        one(h, heirs);
        Bell b = now.copy();
        for (int n = 1; n <= 99; n++) {
            b.pass(true);
            if (b.glasses.get(h).gasps > now.glasses.get(h).gasps) {
                return n;
            }
        }
        return -1;
    }

    private int wayWithout(int from, int to, int without) {
        int[] far = new int[7];
        java.util.Arrays.fill(far, 99);
        far[from] = 0;
        for (int round = 0; round < 7; round++) {
            for (int[] t : twos) {
                if ((without & (1 << t[0] | 1 << t[1])) == 0) {
                    far[t[0]] = Math.min(far[t[0]], far[t[1]] + 1);
                    far[t[1]] = Math.min(far[t[1]], far[t[0]] + 1);
                }
            }
        }
        return far[to] >= 99 ? -1 : far[to];
    }

    int way(int h, int o) {
        one(h, heirs);
        one(o, heirs);
        return wayWithout(h, o, 0);
    }

    int hush(int h, int o) {
        one(h, heirs);
        one(o, heirs);
        need(h != o);
        int best = -1;
        for (int bits = 0; bits < 1 << heirs.size(); bits++) {
            if ((bits & (1 << h | 1 << o)) == 0 && wayWithout(h, o, bits) < 0
                    && (best < 0 || Integer.bitCount(bits) < Integer.bitCount(best))) {
                best = bits;
            }
        }
        return best;
    }

    int still() {
        int best = 0;
        for (int bits = 0; bits < 1 << heirs.size(); bits++) {
            int all = bits;
            boolean right = twos.stream().noneMatch(t -> (all >> t[0] & all >> t[1] & 1) == 1);
            if (right && Integer.bitCount(bits) > Integer.bitCount(best)) {
                best = bits;
            }
        }
        return best;
    }

    private void rows(List<Integer> sat, List<List<Integer>> found) {
        if (sat.size() == heirs.size()) {
            found.add(new ArrayList<>(sat));
        }
        for (int h = 0; h < heirs.size(); h++) {
            if (!sat.contains(h) && (sat.isEmpty() || (friends(sat.get(sat.size() - 1)) & 1 << h) == 0)) {
                sat.add(h);
                rows(sat, found);
                sat.remove(sat.size() - 1);
            }
        }
    }

    private List<List<Integer>> allRows() {
        List<List<Integer>> found = new ArrayList<>();
        rows(new ArrayList<>(), found);
        return found;
    }

    int seats() {
        return allRows().size();
    }

    int seat(int k) {
        need(k >= 0);
        List<List<Integer>> all = allRows();
        return all.isEmpty() || k >= heirs.size() ? -1 : all.get(0).get(k);
    }

    /** For each pair of a breath and ferns that fits: the pair, then the mist hour by hour. */
    private List<int[]> pairs(int h) {
        List<int[]> found = new ArrayList<>();
        for (int pair = 10; pair < 100; pair++) {
            int[] row = new int[13];
            row[0] = pair;
            int mist = 0;
            int air = 99;
            for (int n = 1; n <= 12; n++) {
                int day = (now.hour + n - 1) % 24;
                mist = Math.min(99, mist + cloudBy(pair / 10, pair % 10, 0, air, 0, mist, day, day == sun ? 1 : 0, h));
                air = Math.max(0, Math.min(99, air - pair / 10 + pair % 10));
                row[n] = mist;
            }
            if (lines.entrySet().stream().allMatch(e -> row[e.getKey()] == e.getValue())) {
                found.add(row);
            }
        }
        return found;
    }

    int fits(int h, int what) {
        one(h, heirs);
        in(what, 0, 1);
        List<int[]> found = pairs(h);
        return what == 0 ? found.size() : found.isEmpty() ? -1 : found.get(0)[0];
    }

    int look(int h, int what) {
        one(h, heirs);
        in(what, 0, 1);
        List<int[]> found = pairs(h);
        int bestHour = 0;
        int best = 999;
        for (int n = 1; n <= 12; n++) {
            if (lines.containsKey(n)) {
                continue;
            }
            int worst = 0;
            for (int m = 0; m < 100; m++) {
                int hour = n;
                int mist = m;
                worst = Math.max(worst, (int) found.stream().filter(row -> row[hour] == mist).count());
            }
            if (worst < best) {
                best = worst;
                bestHour = n;
            }
        }
        return what == 0 ? bestHour : best;
    }

    int lots(int n, int k, int m, int part) {
        in(n, 1, 20);
        in(k, 0, n);
        in(m, 0, n);
        in(part, 0, 1);
        BigInteger above = BigInteger.ONE;
        BigInteger below = BigInteger.ONE;
        // One lot behind the other, none of them a good one.
        for (int i = 0; i < m; i++) {
            above = above.multiply(BigInteger.valueOf(Math.max(0, n - k - i)));
            below = below.multiply(BigInteger.valueOf(n - i));
        }
        above = below.subtract(above);
        BigInteger shared = above.gcd(below);
        return (part == 0 ? above : below).divide(shared).intValue();
    }

    int regents(int v, int w, int what) {
        in(v, 0, 99);
        in(w, 0, 99);
        in(what, 0, 2);
        // Both wipe: to leave it brings 0 less 1 for 0. One wipes: the other one had better wipe, too.
        return what == 0 ? v >= w ? 2 : 1 : 0;
    }

    int moss(int h, int bits, int n) {
        one(h, heirs);
        need(bits >= 0 && bits < 1 << heirs.size());
        in(n, 0, 99);
        int got = 0;
        for (int bound = 0; bound <= 9; bound++) {
            int given = 0;
            for (int o = 0; o < heirs.size(); o++) {
                given += (bits >> o & 1) * Math.min(bound, heirs.get(o)[0]);
            }
            if (given <= n) {
                got = Math.min(bound, heirs.get(h)[0]);
            }
        }
        return (bits >> h & 1) * got;
    }

    int backward(int n) {
        in(n, 0, 99999999);
        return Integer.parseInt(new StringBuilder().append(n).reverse().toString());
    }

    int greenest(int what) {
        in(what, 0, 1);
        int best = -1;
        for (int h = 0; h < heirs.size(); h++) {
            int mist = now.glasses.get(h).mist;
            if (mist > (best < 0 ? 0 : now.glasses.get(best).mist)) {
                best = h;
            }
        }
        return best < 0 || what == 0 ? best : now.glasses.get(best).mist;
    }

    int ear(int h) {
        one(h, heirs);
        int bits = 0;
        for (int o = 0; o < heirs.size(); o++) {
            bits |= wayWithout(h, o, 0) < 0 ? 0 : 1 << o;
        }
        return bits;
    }

    int stalest(int what) {
        in(what, 0, 1);
        int best = -1;
        for (int h = 0; h < heirs.size(); h++) {
            if (best < 0 || now.glasses.get(h).air < now.glasses.get(best).air) {
                best = h;
            }
        }
        return best < 0 || what == 0 ? best : now.glasses.get(best).air;
    }

    int coughs(int h, int n) {
        one(h, heirs);
        in(n, 0, 99);
        int many = 0;
        for (int i = 0; i < n; i++) {
            int hour = now.hour + i;
            many += (int) keepers.stream().filter(k -> k[0] == h && hour % k[1] == 0).count();
        }
        return many;
    }

    int twins(int what) {
        in(what, 0, 1);
        List<Integer> found = new ArrayList<>();
        for (int a = 0; a < heirs.size(); a++) {
            for (int b = a + 1; b < heirs.size(); b++) {
                Glass one = now.glasses.get(a);
                Glass other = now.glasses.get(b);
                if (one.breath == other.breath && one.ferns == other.ferns) {
                    found.add(10 * a + b);
                }
            }
        }
        return what == 0 ? found.size() : found.isEmpty() ? -1 : found.get(0);
    }

    int sunny() {
        int wait = 0;
        while ((now.hour + wait) % 24 != sun) {
            wait++;
        }
        return wait;
    }

    int gossip(int what) {
        in(what, 0, 1);
        int best = -1;
        for (int h = 0; h < heirs.size(); h++) {
            if (Integer.bitCount(friends(h)) > (best < 0 ? 0 : Integer.bitCount(friends(best)))) {
                best = h;
            }
        }
        return best < 0 || what == 0 ? best : Integer.bitCount(friends(best));
    }

    private long seed;

    private int draw(int choices) {
        seed = (seed * 1103515245L + 12345) & 0xFFFFFFFFL;
        return (int) (seed >> 16 & 0x7FFF) % choices;
    }

    private Bell yearOf(int firstSeed, int hours) {
        seed = firstSeed & 0xFFFFFFFFL;
        Bell b = now.copy();
        for (int i = 0; i < hours; i++) {
            if (!heirs.isEmpty()) {
                int h = draw(heirs.size());
                b.step(new String[] {"tap", "wipe", "air", "lift", "lower"}[draw(5)], h, 0);
            }
            b.pass(true);
        }
        return b;
    }

    int year(int firstSeed, int hours, int what) {
        in(hours, 1, 96);
        in(what, 0, 3);
        Bell b = yearOf(firstSeed, hours);
        return new int[] {b.mist(), b.elder(), b.gasps() - now.gasps(), b.standing()}[what];
    }

    int span(int firstSeed, int many, int hours, int what) {
        in(many, 1, 20);
        in(hours, 1, 96);
        in(what, 0, 2);
        List<Integer> gasps = new ArrayList<>();
        int elders = 0;
        for (int i = 0; i < many; i++) {
            Bell b = yearOf(firstSeed + i, hours);
            gasps.add(b.gasps() - now.gasps());
            elders += b.elder() >= 0 ? 1 : 0;
        }
        gasps.sort(null);
        return what == 2 ? elders : gasps.get(what == 0 ? 0 : many - 1);
    }

    // ---- what is kept ----

    int image() {
        if (images.size() == 3) {
            return -1;
        }
        List<Bell> copies = new ArrayList<>();
        for (Bell b : before) {
            copies.add(b.copy());
        }
        images.add(new Kept(now.copy(), copies));
        return images.size();
    }

    int restore() {
        if (images.isEmpty()) {
            return -1;
        }
        Kept kept = images.remove(images.size() - 1);
        now = kept.now();
        before = kept.before();
        refusedSteps = 0;
        return images.size();
    }

    int status(int what) {
        return what == 0 || what == 1 ? refusals[what] : -1;
    }

    int count(int what) {
        return what == 0 ? images.size() : what == 1 ? tape.length() : what == 2 ? before.size() : -1;
    }
}
