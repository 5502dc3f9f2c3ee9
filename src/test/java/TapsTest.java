/** Promises 20 to 24 and 32: taps passed on, whom to hush, who may sit beside whom. */
public final class TapsTest {
    private static final String SEVEN = "heir 1 0;".repeat(7);

    public static void main(String[] args) {
        ways();
        hushed();
        still();
        seats();
        ears();
        Due.end();
    }

    private static void ways() {
        FernHeirs x = Due.of(SEVEN + "hears 0 1;hears 1 2;hears 2 3;hears 3 4;hears 0 4;hears 5 6;");
        Due.row("ways", "0 1 2 2 1 -1 -1", () -> x.way(0, 0), () -> x.way(0, 1), () -> x.way(0, 2), () -> x.way(0, 3),
                () -> x.way(0, 4), () -> x.way(0, 5), () -> x.way(6, 3));
        Due.row("either way", "2 1", () -> x.way(3, 0), () -> x.way(6, 5));
        Due.work(x, "lift 1;lift 0;");
        Due.same("glasses do not matter", x.way(1, 4), 2);
        FernHeirs line = Due.of(SEVEN + "hears 0 1;hears 1 2;hears 2 3;hears 3 4;hears 4 5;hears 5 6;");
        Due.row("six taps", "6 6", () -> line.way(0, 6), () -> line.way(6, 0));
        Due.noSuch("way from none", () -> x.way(7, 0));
        Due.noSuch("way to none", () -> x.way(0, 7));
        Due.noSuch("way to fewer", () -> x.way(0, -1));
        Due.noSuch("way from fewer", () -> x.way(-1, 0));
        Due.same("refused", x.status(0), 4);
    }

    private static void hushed() {
        FernHeirs x = Due.of(SEVEN + "hears 0 2;hears 2 1;hears 0 3;hears 3 1;hears 3 4;hears 4 5;");
        Due.row("both between", "12 12", () -> x.hush(0, 1), () -> x.hush(1, 0));
        Due.row("the least bits", "8 16 8", () -> x.hush(0, 5), () -> x.hush(3, 5), () -> x.hush(2, 4));
        Due.row("a two", "-1 -1", () -> x.hush(0, 2), () -> x.hush(5, 4));
        Due.row("no way", "0 0", () -> x.hush(0, 6), () -> x.hush(6, 5));
        FernHeirs line = Due.of(SEVEN + "hears 6 5;hears 5 4;hears 4 3;hears 3 2;hears 2 1;hears 1 0;");
        Due.row("one of a line", "2 16 4", () -> line.hush(0, 6), () -> line.hush(6, 3), () -> line.hush(1, 6));
        FernHeirs wide = Due.of(SEVEN + "hears 0 2;hears 0 3;hears 0 4;hears 0 5;hears 0 6;hears 1 2;hears 1 3;hears 1 4;"
                + "hears 1 5;hears 1 6;");
        Due.same("all five others", wide.hush(0, 1), 124);
        FernHeirs few = Due.of(SEVEN + "hears 0 4;hears 0 5;hears 0 6;hears 4 3;hears 5 3;hears 6 3;hears 3 2;hears 2 1;");
        Due.same("few ones of many bits", few.hush(0, 1), 4);
        Due.same("two instead of three", few.hush(0, 3), 112);
        Due.noSuch("hush of none", () -> x.hush(7, 7));
        Due.noSuch("hush of none", () -> x.hush(0, 7));
        Due.noSuch("hush of fewer", () -> x.hush(-1, -1));
        Due.noSuch("hush of none and one", () -> x.hush(7, 0));
        Due.noSuch("hush of fewer and one", () -> x.hush(-1, 0));
        Due.wrongArgument("hush of one", () -> x.hush(3, 3));
        Due.row("refused", "5 1", () -> x.status(0), () -> x.status(1));
    }

    private static void still() {
        Due.same("no heirs", new FernHeirs().still(), 0);
        Due.same("one heir", Due.of("heir 1 0;").still(), 1);
        Due.same("no twos", Due.of(SEVEN).still(), 127);
        Due.same("a ring of five", Due.of("heir 1 0;".repeat(5) + "hears 0 1;hears 1 2;hears 2 3;hears 3 4;hears 4 0;").still(), 5);
        Due.same("one of two", Due.of("heir 1 0;heir 1 0;hears 1 0;").still(), 1);
        Due.same("many bits, more of them", Due.of("heir 1 0;".repeat(4) + "hears 0 1;hears 0 2;hears 0 3;").still(), 14);
        Due.same("the least bits", Due.of("heir 1 0;".repeat(4) + "hears 0 1;hears 2 3;").still(), 5);
    }

    private static void row(String court, int rows, String first) {
        FernHeirs x = Due.of(court);
        Due.same("seats of " + court, x.seats(), rows);
        StringBuilder got = new StringBuilder();
        for (int k = 0; k < x.told(0); k++) {
            got.append(x.seat(k));
        }
        Due.same("the first row of " + court + ": " + got, got.toString().equals(first) ? 1 : 0, 1);
        Due.row("no such seats", "-1 -1", () -> x.seat(x.told(0)), () -> x.seat(Integer.MAX_VALUE));
        Due.wrongArgument("seat -1", () -> x.seat(-1));
        Due.wrongArgument("seat far below", () -> x.seat(Integer.MIN_VALUE));
    }

    private static void seats() {
        Due.same("a seat, asked first", Due.of("heir 1 0;heir 1 0;heir 1 0;hears 0 1;").seat(1), 2);
        row("", 1, "");
        row("heir 1 0;", 1, "0");
        row("heir 1 0;heir 1 0;", 2, "01");
        row("heir 1 0;heir 1 0;hears 0 1;", 0, "-1-1");
        row("heir 1 0;heir 1 0;heir 1 0;hears 0 1;", 2, "021");
        row("heir 1 0;heir 1 0;heir 1 0;heir 1 0;hears 0 1;hears 0 2;", 4, "0312");
        row("heir 1 0;heir 1 0;heir 1 0;heir 1 0;hears 1 2;hears 0 2;", 4, "0132");
        row("heir 1 0;heir 1 0;heir 1 0;heir 1 0;hears 0 1;hears 0 2;hears 0 3;", 0, "-1-1-1-1");
        row(SEVEN, 5040, "0123456");
        row(SEVEN + "hears 0 1;", 3600, "0213456");
        row(SEVEN + "hears 5 6;", 3600, "0123546");
    }

    private static void ears() {
        FernHeirs x = Due.of(SEVEN + "hears 6 1;hears 1 4;hears 0 2;");
        Due.row("ears", "5 82 5 8 82 32 82", () -> x.ear(0), () -> x.ear(1), () -> x.ear(2), () -> x.ear(3), () -> x.ear(4),
                () -> x.ear(5), () -> x.ear(6));
        Due.work(x, "lift 1;");
        Due.same("glasses do not matter", x.ear(4), 82);
        FernHeirs line = Due.of(SEVEN + "hears 6 5;hears 5 4;hears 4 3;hears 3 2;hears 2 1;hears 1 0;");
        Due.same("all of a line", line.ear(6), 127);
        Due.noSuch("ear of none", () -> x.ear(7));
        Due.noSuch("ear of fewer", () -> x.ear(-1));
    }
}
