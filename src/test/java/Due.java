import java.util.NoSuchElementException;
import java.util.function.IntSupplier;

/** What the tests share: texts fed to the tape, answers compared, and the exit code. */
final class Due {
    private static int wrong = 0;
    private static int asked = 0;

    private Due() {
    }

    static void same(String call, long got, long want) {
        asked++;
        if (got != want) {
            wrong++;
            System.out.println(call + " answered " + got + ", due is " + want);
        }
    }

    /** Several answers at once, as they are written with blanks between them. */
    static void row(String call, String want, IntSupplier... calls) {
        StringBuilder got = new StringBuilder();
        for (IntSupplier one : calls) {
            got.append(got.length() == 0 ? "" : " ").append(one.getAsInt());
        }
        asked++;
        if (!got.toString().equals(want)) {
            wrong++;
            System.out.println(call + " answered " + got + ", due is " + want);
        }
    }

    static void wrongArgument(String call, IntSupplier asked) {
        refusal(call, asked, IllegalArgumentException.class);
    }

    static void noSuch(String call, IntSupplier asked) {
        refusal(call, asked, NoSuchElementException.class);
    }

    private static void refusal(String call, IntSupplier one, Class<?> want) {
        asked++;
        String got;
        try {
            got = "answered " + one.getAsInt();
        } catch (RuntimeException e) {
            if (e.getClass() == want) {
                return;
            }
            got = "threw " + e.getClass().getName();
        }
        wrong++;
        System.out.println(call + " " + got + ", due is " + want.getSimpleName());
    }

    /** Feeds a text, of characters 0 to 255, to an empty tape; the last number is filled with zeros. */
    static int feed(FernHeirs x, String text) {
        int[] five = new int[5];
        for (int from = 0; from < text.length(); from += 20) {
            for (int i = 0; i < 5; i++) {
                five[i] = 0;
                for (int b = 0; b < 4; b++) {
                    int at = from + 4 * i + b;
                    five[i] = five[i] << 8 | (at < text.length() ? text.charAt(at) : 0);
                }
            }
            x.feed(five[0], five[1], five[2], five[3], five[4]);
        }
        return text.length();
    }

    static int court(FernHeirs x, String text) {
        return x.court(feed(x, text));
    }

    static int law(FernHeirs x, String text) {
        return x.law(feed(x, text));
    }

    static int work(FernHeirs x, String text) {
        return x.work(feed(x, text));
    }

    static int book(FernHeirs x, String text) {
        return x.book(feed(x, text));
    }

    static FernHeirs of(String court) {
        FernHeirs x = new FernHeirs();
        if (court(x, court) < 0) {
            same("court " + court + ", its fault", x.fault(), FernHeirs.NONE);
        }
        return x;
    }

    static FernHeirs of(String court, String law) {
        FernHeirs x = of(court);
        same("law " + law, law(x, law), 1);
        return x;
    }

    static void end() {
        System.out.println(wrong == 0 ? asked + " answers are as due" : wrong + " of " + asked + " answers are not as due");
        if (wrong != 0) {
            System.exit(1);
        }
    }
}
