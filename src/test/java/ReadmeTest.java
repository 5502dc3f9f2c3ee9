/** What README.md shows, call by call, and what it says of calls. */
public final class ReadmeTest {
    public static void main(String[] args) {
        example();
        said();
        Due.end();
    }

    private static void example() {
        FernHeirs x = new FernHeirs();
        Due.same("feed", x.feed(0x68656972, 0x20352032, 0x3b686569, 0x72203920, 0x303b6865), 20);
        Due.same("feed", x.feed(0x61727320, 0x3020313b, 0, 0, 0), 40);
        Due.same("court", x.court(28), 2);
        Due.same("cloud", x.cloud(0), 12);
        Due.same("clouds", x.clouds(1), 3);
        Due.same("feed", x.feed(0x74617020, 0x303b686f, 0x75723b00, 0, 0), 20);
        Due.same("work", x.work(11), 2);
        Due.same("heir", x.heir(1, 2), 17);
        Due.same("way", x.way(0, 1), 1);
        Due.same("undo", x.undo(), 0);
        Due.same("told", x.told(3), 0);
    }

    private static void said() {
        FernHeirs x = Due.of("heir 5 2;heir 9 0;hears 0 1;");
        String before = Due.morning(x);
        Due.row("what can't stand there", "-9 4", () -> Due.work(x, "hour"), x::fault);
        Due.row("a number that is none such", "-8 5", () -> Due.work(x, "wipe 2;"), x::fault);
        Due.row("one too many", "-7 6", () -> Due.law(x, "(((((((1)))))))"), x::fault);
        Due.row("the tape, and no work", "0 0", () -> x.count(1), () -> x.count(2));
        Due.asBefore("faults", before, Due.morning(x));
        Due.noSuch("no such heir, first", () -> x.heir(2, 10));
        Due.wrongArgument("another argument", () -> x.heir(1, 10));
        Due.row("counted", "1 1", () -> x.status(0), () -> x.status(1));
        Due.asBefore("refusals", before, Due.morning(x));
        for (int what = 0; what < 4; what++) {
            x.ahead(99, what);
            x.year(7, 96, what);
        }
        x.wipes(0);
        x.fits(0, 0);
        Due.asBefore("hours ahead", before, Due.morning(x));
    }
}
