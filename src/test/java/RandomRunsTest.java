import java.util.NoSuchElementException;
import java.util.Random;
import java.util.function.IntSupplier;

/** Random runs of calls, right and wrong ones, each answer compared with that of the plain model. */
public final class RandomRunsTest {
    private static final int RUNS = 450;
    // What calls behind the 512th answer is free.
    private static final int CALLS = 512;

    private final Random random;
    private final FernHeirs x = new FernHeirs();
    private final PlainModel m = new PlainModel();
    private final StringBuilder told = new StringBuilder();
    private final int textsSeldom;
    private int calls;

    private RandomRunsTest(long seed) {
        random = new Random(seed);
        textsSeldom = 1 + random.nextInt(6);
    }

    public static void main(String[] args) {
        for (int run = 0; run < RUNS; run++) {
            new RandomRunsTest(run).run(run);
        }
        Due.end();
    }

    private void run(int run) {
        while (calls < CALLS) {
            told.setLength(0);
            told.append("run ").append(run).append(", call ").append(calls).append(": ");
            if (random.nextInt(textsSeldom) == 0) {
                text();
            } else if (random.nextInt(3) == 0) {
                state();
            } else {
                ask();
            }
        }
    }

    private void same(String call, IntSupplier got, IntSupplier want) {
        if (calls >= CALLS) {
            return;
        }
        calls++;
        String right = answer(want);
        String answer = answer(got);
        if (!right.equals(answer)) {
            System.out.println(told + call + ": " + answer + ", the model: " + right);
        }
        Due.same(told + call, answer.equals(right) ? 1 : 0, 1);
    }

    private static String answer(IntSupplier call) {
        try {
            return "" + call.getAsInt();
        } catch (NoSuchElementException | IllegalArgumentException e) {
            return e.getClass().getName();
        }
    }

    /** Mostly from 0 to most, sometimes just outside, seldom far outside. */
    private int near(int least, int most) {
        int chance = random.nextInt(40);
        return chance == 0 ? least - 1 : chance == 1 ? most + 1 : chance == 2 ? random.nextInt()
                : least + random.nextInt(most - least + 1);
    }

    private int number(int least, int most) {
        return random.nextInt(60) == 0 ? near(0, 1200) & 0x7FFFFFFF : least + random.nextInt(most - least + 1);
    }

    private String blanks(String... tokens) {
        StringBuilder all = new StringBuilder();
        for (String token : tokens) {
            all.append(" ".repeat(random.nextInt(6) == 0 ? 2 : random.nextInt(8) == 0 ? 0 : 1)).append(token);
        }
        return random.nextInt(3) == 0 ? all.toString() : all.toString().trim();
    }

    // ---- texts ----

    private void text() {
        int kind = random.nextInt(10);
        kind = kind < 2 ? 0 : kind < 4 ? 1 : kind < 9 ? 2 : 3;
        String text = kind == 0 ? courtText() : kind == 1 ? sumText(3) : kind == 2 ? workText() : bookText();
        if (random.nextInt(5) == 0) {
            text = broken(text);
        }
        int most = kind == 0 ? 600 : kind == 3 ? 60 : 150;
        if (text.length() > most && random.nextInt(10) != 0) {
            text = text.substring(0, Math.min(most, text.lastIndexOf(';', most - 1) + 1));
        }
        feed(text);
        int n = random.nextInt(25) == 0 ? near(0, Math.min(most, text.length() + 20)) : text.length();
        told.append("<").append(text).append("> ");
        switch (kind) {
            case 0: same("court", () -> x.court(n), () -> m.court(n)); break;
            case 1: same("law", () -> x.law(n), () -> m.law(n)); break;
            case 2: same("work", () -> x.work(n), () -> m.work(n)); break;
            default: same("book", () -> x.book(n), () -> m.book(n)); break;
        }
        same("fault", x::fault, m::fault);
        same("refused steps", () -> x.told(10), () -> m.told(10));
        if (m.count(1) > 0) {
            same("law(0)", () -> x.law(0), () -> m.law(0));
        }
    }

    private void feed(String text) {
        for (int from = 0; from < text.length(); from += 20) {
            int[] five = new int[5];
            for (int i = 0; i < 20; i++) {
                int sign = from + i < text.length() ? text.charAt(from + i) : 0;
                five[i / 4] = five[i / 4] << 8 | sign;
            }
            same("feed", () -> x.feed(five[0], five[1], five[2], five[3], five[4]), () -> m.feed(five));
        }
    }

    private String broken(String text) {
        if (text.isEmpty()) {
            return "?";
        }
        int at = random.nextInt(text.length());
        switch (random.nextInt(4)) {
            case 0: return text.substring(0, at);
            case 1: return text.substring(0, at) + text.substring(at + 1);
            case 2: return text.substring(0, at) + " ;0a([]*,)\u00ff\u0000".charAt(random.nextInt(12)) + text.substring(at);
            default: return text.substring(0, at) + text.charAt(random.nextInt(text.length())) + text.substring(at + 1);
        }
    }

    private String courtText() {
        StringBuilder all = new StringBuilder();
        int heirs = random.nextInt(12) == 0 ? random.nextInt(9) : 2 + random.nextInt(6);
        for (int i = 0; i < heirs; i++) {
            all.append(blanks("heir", "" + number(1, 9), "" + number(0, 9), ";"));
        }
        int more = random.nextInt(8) == 0 ? random.nextInt(70) : random.nextInt(14);
        java.util.Set<String> told = new java.util.HashSet<>();
        for (int i = 0; i < more; i++) {
            int a = number(0, Math.max(0, heirs - 1));
            int c = number(0, Math.max(0, heirs - 1));
            int kind = random.nextInt(12);
            boolean fresh = a != c && told.add(Math.min(a, c) + " " + Math.max(a, c));
            if (kind < 7 && (fresh || random.nextInt(20) == 0)) {
                all.append(blanks("hears", "" + a, "" + c, ";"));
            } else if (kind < 9) {
                all.append(blanks("keeper", "" + a, "" + number(1, random.nextBoolean() ? 24 : 4), ";"));
            } else if (kind < 11) {
                all.append(blanks("sun", "" + number(0, 23), ";"));
            }
        }
        return all.toString();
    }

    private String sumText(int depth) {
        StringBuilder all = new StringBuilder(productText(depth));
        for (int i = random.nextInt(3); i > 0; i--) {
            all.append(blanks(random.nextBoolean() ? "+" : "-")).append(productText(depth));
        }
        return all.toString();
    }

    private String productText(int depth) {
        StringBuilder all = new StringBuilder(unitText(depth));
        for (int i = random.nextInt(4) - 2; i > 0; i--) {
            all.append(blanks("*/%".charAt(random.nextInt(3)) + "")).append(unitText(depth));
        }
        return all.toString();
    }

    private String unitText(int depth) {
        int kind = random.nextInt(depth > 0 ? 10 : 7);
        String[] words = {"breath", "ferns", "taps", "air", "cracks", "mist", "hour", "sun", "heir"};
        if (kind < 2) {
            return blanks("" + number(0, random.nextInt(4) == 0 ? 999 : 9));
        }
        if (kind < 7) {
            return blanks(words[random.nextInt(9)]);
        }
        return kind < 8 ? blanks("(") + sumText(depth - 1) + blanks(")")
                : blanks(kind == 8 ? "least" : "most", "[") + sumText(depth - 1) + blanks(",") + sumText(depth - 1) + blanks("]");
    }

    private String workText() {
        return random.nextInt(12) == 0 ? stepsText(8, 1) : stepsText(random.nextInt(4), 5);
    }

    private String stepsText(int depth, int most) {
        StringBuilder all = new StringBuilder();
        String[] words = {"wipe", "lift", "lower", "crack", "air", "tap"};
        int heirs = Math.max(1, m.heirs.size());
        for (int i = random.nextInt(3) == 0 ? 0 : 1 + random.nextInt(most); i >= 0; i--) {
            int kind = random.nextInt(14);
            if (kind < 6) {
                all.append(blanks(words[kind], "" + number(0, heirs - 1), ";"));
            } else if (kind == 6) {
                all.append(blanks("fern", "" + number(0, heirs - 1), "" + number(0, 9), ";"));
            } else if (kind == 7) {
                all.append(blanks("dawn", ";"));
            } else if (kind < 11 || depth <= 0) {
                all.append(blanks("hour", ";"));
            } else {
                all.append(blanks("again", "" + number(0, random.nextInt(4) == 0 ? 30 : 8), "["))
                        .append(stepsText(depth - 1, most)).append(blanks("]", ";"));
            }
        }
        return all.toString();
    }

    private String bookText() {
        StringBuilder all = new StringBuilder();
        int most = random.nextInt(4) == 0 ? 8 : 3;
        for (int i = random.nextInt(most); i > 0; i--) {
            int hour = 1 + random.nextInt(12);
            // Mostly a mist that comes after so many hours, so that some pairs fit.
            int mist = number(0, random.nextBoolean() ? 99 : Math.min(99, 20 * hour));
            all.append(blanks("" + number(hour, hour), "" + mist, ";"));
        }
        return all.toString();
    }

    // ---- calls ----

    private void state() {
        switch (random.nextInt(8)) {
            case 0: same("undo", x::undo, m::undo); break;
            case 1: same("image", x::image, m::image); break;
            case 2: same("restore", x::restore, m::restore); break;
            default: stateAnswers(); break;
        }
        same("refused steps", () -> x.told(10), () -> m.told(10));
    }

    private void stateAnswers() {
        int what = near(0, 11);
        same("told " + what, () -> x.told(what), () -> m.told(what));
        int h = near(0, Math.max(0, m.heirs.size() - 1));
        for (int w = 0; w < 10; w++) {
            int of = w;
            same("heir " + h + " " + of, () -> x.heir(h, of), () -> m.heir(h, of));
        }
        int one = near(0, 9);
        same("heir", () -> x.heir(h, one), () -> m.heir(h, one));
        int t = near(0, Math.max(0, m.twos.size() - 1));
        int two = near(0, 1);
        same("two", () -> x.two(t, two), () -> m.two(t, two));
        int k = near(0, Math.max(0, m.keepers.size() - 1));
        int three = near(0, 2);
        same("keeper", () -> x.keeper(k, three), () -> m.keeper(k, three));
        same("rank", () -> x.rank(one), () -> m.rank(one));
        same("status", () -> x.status(two), () -> m.status(two));
        same("count", () -> x.count(three), () -> m.count(three));
        same("cloud", () -> x.cloud(h), () -> m.cloud(h));
        same("fault", x::fault, m::fault);
        for (int w = 0; w < 12; w++) {
            int of = w;
            same("told " + of, () -> x.told(of), () -> m.told(of));
        }
    }

    private void ask() {
        int h = near(0, Math.max(0, m.heirs.size() - 1));
        int o = near(0, Math.max(0, m.heirs.size() - 1));
        int bit = near(0, 1);
        int three = near(0, 3);
        int n = near(0, 99);
        int hours = near(1, random.nextInt(3) == 0 ? 96 : 12);
        int bits = near(0, (1 << m.heirs.size()) - 1);
        int seed = random.nextInt();
        String args = h + " " + o + " " + bit + " " + three + " " + n + " " + hours + " " + bits + " " + seed;
        switch (random.nextInt(28)) {
            case 0: would(); break;
            case 1: same("ahead " + args, () -> x.ahead(n, three), () -> m.ahead(n, three)); break;
            case 2: same("clouds " + args, () -> x.clouds(h), () -> m.clouds(h)); break;
            case 3: same("wipes " + args, () -> x.wipes(h), () -> m.wipes(h)); break;
            case 4: same("gasp " + args, () -> x.gasp(h), () -> m.gasp(h)); break;
            case 5: same("way " + args, () -> x.way(h, o), () -> m.way(h, o)); break;
            case 6: same("hush " + args, () -> x.hush(h, o), () -> m.hush(h, o)); break;
            case 7: same("still " + args, x::still, m::still); break;
            case 8: same("seats " + args, x::seats, m::seats); break;
            case 9: same("seat " + args, () -> x.seat(n % 9), () -> m.seat(n % 9)); break;
            case 10: same("fits " + args, () -> x.fits(h, bit), () -> m.fits(h, bit)); break;
            case 11: same("look " + args, () -> x.look(h, bit), () -> m.look(h, bit)); break;
            case 12: lots(); break;
            case 13: same("regents " + args, () -> x.regents(n, hours, three), () -> m.regents(n, hours, three)); break;
            case 14: same("moss " + args, () -> x.moss(h, bits, n), () -> m.moss(h, bits, n)); break;
            case 15: same("backward " + args, () -> x.backward(seed), () -> m.backward(seed)); break;
            case 16: same("backward " + args, () -> x.backward(seed >>> 6), () -> m.backward(seed >>> 6)); break;
            case 17: same("greenest " + args, () -> x.greenest(bit), () -> m.greenest(bit)); break;
            case 18: same("ear " + args, () -> x.ear(h), () -> m.ear(h)); break;
            case 19: same("stalest " + args, () -> x.stalest(bit), () -> m.stalest(bit)); break;
            case 20: same("coughs " + args, () -> x.coughs(h, n), () -> m.coughs(h, n)); break;
            case 21: same("twins " + args, () -> x.twins(bit), () -> m.twins(bit)); break;
            case 22: same("sunny " + args, x::sunny, m::sunny); break;
            case 23: same("gossip " + args, () -> x.gossip(bit), () -> m.gossip(bit)); break;
            case 24: same("year " + args, () -> x.year(seed, hours, three), () -> m.year(seed, hours, three)); break;
            case 25: same("year " + args, () -> x.year(n, hours, three), () -> m.year(n, hours, three)); break;
            case 26: same("span " + args, () -> x.span(seed, bits % 22, hours, three), () -> m.span(seed, bits % 22, hours, three)); break;
            default: same("rank " + args, () -> x.rank(n % 8), () -> m.rank(n % 8)); break;
        }
    }

    private void would() {
        int[] most = {9, 9, 999, 99, 3, 99, 23, 1, 6};
        int[] a = new int[9];
        for (int i = 0; i < 9; i++) {
            a[i] = random.nextInt(3) == 0 ? near(i == 0 ? 1 : 0, most[i]) : 1 + random.nextInt(most[i]);
        }
        same("would", () -> x.would(a[0], a[1], a[2], a[3], a[4], a[5], a[6], a[7], a[8]), () -> m.would(a));
    }

    private void lots() {
        int n = near(1, 20);
        int k = near(0, Math.max(1, Math.min(n, 20)));
        int good = near(0, Math.max(1, Math.min(n, 20)));
        int part = near(0, 1);
        same("lots " + n + " " + k + " " + good, () -> x.lots(n, k, good, part), () -> m.lots(n, k, good, part));
    }
}
