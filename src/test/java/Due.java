import java.util.NoSuchElementException;
import java.util.function.IntSupplier;

/** What the tests share: texts fed to the tape, answers compared, and the exit code. */
final class Due {
    private static int wrong = 0;
    private static int asked = 0;

    private Due() {
    }

    static void same(String call, long got, long want) {
        asked++;
        if (got != want) {
            wrong++;
            System.out.println(call + " answered " + got + ", due is " + want);
        }
    }

    /** Several answers at once, as they are written with blanks between them. */
    static void row(String call, String want, IntSupplier... calls) {
        StringBuilder got = new StringBuilder();
        for (IntSupplier one : calls) {
            got.append(got.length() == 0 ? "" : " ").append(one.getAsInt());
        }
        asked++;
        if (!got.toString().equals(want)) {
            wrong++;
            System.out.println(call + " answered " + got + ", due is " + want);
        }
    }

    static void wrongArgument(String call, IntSupplier asked) {
        refusal(call, asked, IllegalArgumentException.class);
    }

    static void noSuch(String call, IntSupplier asked) {
        refusal(call, asked, NoSuchElementException.class);
    }

    private static void refusal(String call, IntSupplier one, Class<?> want) {
        asked++;
        String got;
        try {
            got = "answered " + one.getAsInt();
        } catch (RuntimeException e) {
            if (e.getClass() == want) {
                return;
            }
            got = "threw " + e.getClass().getName();
        }
        wrong++;
        System.out.println(call + " " + got + ", due is " + want.getSimpleName());
    }

    /** Feeds a text, of characters 0 to 255, to an empty tape; the last number is filled with zeros. */
    static int feed(FernHeirs x, String text) {
        int[] five = new int[5];
        for (int from = 0; from < text.length(); from += 20) {
            for (int i = 0; i < 5; i++) {
                five[i] = 0;
                for (int b = 0; b < 4; b++) {
                    int at = from + 4 * i + b;
                    five[i] = five[i] << 8 | (at < text.length() ? text.charAt(at) : 0);
                }
            }
            x.feed(five[0], five[1], five[2], five[3], five[4]);
        }
        return text.length();
    }

    static int court(FernHeirs x, String text) {
        return x.court(feed(x, text));
    }

    static int law(FernHeirs x, String text) {
        return x.law(feed(x, text));
    }

    static int work(FernHeirs x, String text) {
        return x.work(feed(x, text));
    }

    static int book(FernHeirs x, String text) {
        return x.book(feed(x, text));
    }

    static int text(FernHeirs x, String kind, String text) {
        switch (kind) {
            case "court": return court(x, text);
            case "law": return law(x, text);
            case "work": return work(x, text);
            default: return book(x, text);
        }
    }

    /** What a text is answered on a court of two heirs, and the place of its fault. */
    static void fault(String kind, String text, int answer, int place) {
        FernHeirs x = of("heir 5 2;heir 9 0;");
        same(kind + " <" + text + ">", text(x, kind, text), answer);
        same(kind + " <" + text + ">, the place", x.fault(), place);
        same(kind + " <" + text + ">, the tape", x.count(1), 0);
        same(kind + " <" + text + ">, heirs", x.told(0), 2);
    }

    static FernHeirs of(String court) {
        FernHeirs x = new FernHeirs();
        if (court(x, court) < 0) {
            same("court " + court + ", its fault", x.fault(), FernHeirs.NONE);
        }
        return x;
    }

    static FernHeirs of(String court, String law) {
        FernHeirs x = of(court);
        same("law " + law, law(x, law), 1);
        return x;
    }

    /** A year by a seed as works, of eight hours each or less: how many works. */
    static int yearAsWorks(FernHeirs x, int seed, int hours) {
        String[] words = {"tap ", "wipe ", "air ", "lift ", "lower "};
        int heirs = x.told(0);
        int works = 0;
        long drawn = seed;
        StringBuilder work = new StringBuilder();
        for (int i = 1; i <= hours; i++) {
            drawn = drawn * 1103515245L + 12345 & 0xFFFFFFFFL;
            int heir = (int) (drawn >> 16 & 32767) % heirs;
            drawn = drawn * 1103515245L + 12345 & 0xFFFFFFFFL;
            work.append(words[(int) (drawn >> 16 & 32767) % 5]).append(heir).append(";hour;");
            if (i % 8 == 0 || i == hours) {
                work(x, work.toString());
                work.setLength(0);
                works++;
            }
        }
        return works;
    }

    /** All that a work changes, as calls tell it. */
    static String morning(FernHeirs x) {
        StringBuilder all = new StringBuilder();
        for (int what : new int[] {3, 4, 5, 6, 8, 11}) {
            all.append(x.told(what)).append(' ');
        }
        int heirs = x.told(0);
        for (int h = 0; h < heirs; h++) {
            for (int what = 0; what < 10; what++) {
                all.append(x.heir(h, what)).append(' ');
            }
        }
        return all.toString();
    }

    /** All that calls tell, but for refusals: the morning, the court, the law, the book, and what is kept. */
    static String all(FernHeirs x) {
        StringBuilder all = new StringBuilder(morning(x));
        for (int what : new int[] {0, 1, 2, 7, 9, 10}) {
            all.append(x.told(what)).append(' ');
        }
        int twos = x.told(1);
        for (int t = 0; t < twos; t++) {
            all.append(x.two(t, 0)).append(' ').append(x.two(t, 1)).append(' ');
        }
        int keepers = x.told(2);
        for (int k = 0; k < keepers; k++) {
            all.append(x.keeper(k, 0)).append(' ').append(x.keeper(k, 1)).append(' ');
        }
        if (x.told(0) > 0) {
            all.append(x.fits(0, 0)).append(' ').append(x.fits(0, 1)).append(' ').append(x.look(0, 0)).append(' ');
        }
        all.append(x.would(7, 5, 3, 90, 2, 40, 20, 1, 6)).append(' ').append(x.fault()).append(' ');
        return all.append(x.count(0)).append(' ').append(x.count(1)).append(' ').append(x.count(2)).toString();
    }

    static void asBefore(String call, String before, String now) {
        asked++;
        if (!now.equals(before)) {
            wrong++;
            System.out.println(call + " left " + now + ", due is " + before);
        }
    }

    static void end() {
        System.out.println(wrong == 0 ? asked + " answers are as due" : wrong + " of " + asked + " answers are not as due");
        if (wrong != 0) {
            System.exit(1);
        }
    }
}
