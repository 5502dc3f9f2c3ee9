/** Promises 6, 25 and 26: which child it was by how its glass clouded, the hour to look at next. */
public final class GuessTest {
    public static void main(String[] args) {
        fits();
        fromNowOn();
        look();
        Due.end();
    }

    private static void book(FernHeirs x, String book, int lines) {
        Due.same("book " + book, Due.book(x, book), lines);
        Due.same("lines of " + book, x.told(9), lines);
    }

    private static void fits() {
        FernHeirs x = Due.of("heir 5 2;heir 9 0;");
        Due.row("no book", "90 10", () -> x.fits(0, 0), () -> x.fits(0, 1));
        book(x, "1 15;", 1);
        Due.row("15 after an hour", "5 39 5 39", () -> x.fits(0, 0), () -> x.fits(0, 1), () -> x.fits(1, 0), () -> x.fits(1, 1));
        book(x, "1 27;", 1);
        Due.row("27", "1 99", () -> x.fits(0, 0), () -> x.fits(0, 1));
        book(x, "1 2;", 1);
        Due.row("2", "1 10", () -> x.fits(0, 0), () -> x.fits(0, 1));
        book(x, "1 1;", 1);
        Due.row("1", "0 -1", () -> x.fits(0, 0), () -> x.fits(0, 1));
        book(x, "1 15;2 31;", 2);
        Due.row("not both", "0 -1", () -> x.fits(0, 0), () -> x.fits(0, 1));
        book(x, "12 99;", 1);
        Due.row("99 after 12 hours: 9 or more an hour", "74", () -> x.fits(0, 0));
        book(x, "12 96;1 8;", 2);
        Due.row("8 each hour", "4 16", () -> x.fits(0, 0), () -> x.fits(0, 1));
        Due.law(x, "heir");
        book(x, "3 3;", 1);
        Due.row("by the heir's number", "0 90", () -> x.fits(0, 0), () -> x.fits(1, 0));
        Due.law(x, "air / 10 + taps + cracks");
        book(x, "1 9;2 18;3 26;", 3);
        // below 90 after two hours: breath is more than ferns by 5 to 9
        Due.row("by the air", "15 50", () -> x.fits(0, 0), () -> x.fits(0, 1));
        Due.noSuch("fits of none", () -> x.fits(2, 0));
        Due.noSuch("fits of fewer", () -> x.fits(-1, 2));
        Due.wrongArgument("fits 2", () -> x.fits(0, 2));
        Due.wrongArgument("fits -1", () -> x.fits(0, -1));
    }

    private static void fromNowOn() {
        FernHeirs x = Due.of("heir 5 2;heir 9 0;hears 0 1;keeper 0 1;sun 3;", "breath + cracks + taps * 3 + (99 - air) / 99 + sun * ferns");
        Due.work(x, "crack 0;tap 1;hour;tap 1;lift 1;");
        Due.same("asked ahead", x.ahead(0, 1), 0);
        book(x, "1 4;", 1);
        Due.row("no cracks, no taps, no coughs", "10 40 10 40", () -> x.fits(0, 0), () -> x.fits(0, 1), () -> x.fits(1, 0),
                () -> x.fits(1, 1));
        book(x, "3 17;", 1);
        Due.row("hour 3 is the third from now on", "3 38 3", () -> x.fits(0, 0), () -> x.fits(0, 1), () -> x.fits(1, 0));
        Due.work(x, "hour;");
        Due.same("and the second then", x.fits(0, 0), 3);
        Due.law(x, "hour");
        book(x, "1 2;2 5;12 90;", 3);
        Due.same("the hour goes on", x.fits(0, 0), 90);
        Due.work(x, "again 20[hour;];");
        book(x, "1 22;2 45;3 45;4 46;", 4);
        Due.same("beyond a day", x.fits(0, 0), 90);
    }

    private static void look() {
        FernHeirs x = Due.of("heir 5 2;heir 9 0;", "breath");
        Due.row("ten of each breath", "1 10", () -> x.look(0, 0), () -> x.look(0, 1));
        book(x, "1 4;", 1);
        Due.row("one breath is left", "2 10", () -> x.look(0, 0), () -> x.look(0, 1));
        book(x, "2 4;1 3;", 2);
        Due.row("none is left", "3 0", () -> x.look(0, 0), () -> x.look(0, 1));
        book(x, "", 0);
        Due.law(x, "sun * breath");
        Due.row("no sun in twelve hours", "1 90", () -> x.look(0, 0), () -> x.look(0, 1));
        Due.work(x, "hour;");
        Due.row("sun in the twelfth", "12 10", () -> x.look(0, 0), () -> x.look(0, 1));
        Due.work(x, "hour;");
        Due.row("in the eleventh", "11 10", () -> x.look(1, 0), () -> x.look(1, 1));
        book(x, "11 5;", 1);
        Due.row("told", "1 10", () -> x.look(0, 0), () -> x.look(0, 1));
        book(x, "1 0;2 0;3 0;4 0;5 0;6 0;", 6);
        Due.row("six lines", "11 10", () -> x.look(0, 0), () -> x.look(0, 1));
        FernHeirs y = Due.of("heir 1 1;", "breath * (hour % 2) + ferns * (1 - hour % 2)");
        // 5 times the ferns and 4 times the breath: no more than two pairs are alike
        Due.row("the ninth hour", "9 2", () -> y.look(0, 0), () -> y.look(0, 1));
        book(y, "1 3;", 1);
        Due.row("then breath", "2 1", () -> y.look(0, 0), () -> y.look(0, 1));
        Due.noSuch("look of none", () -> x.look(2, 2));
        Due.noSuch("look of fewer", () -> x.look(-1, 0));
        Due.wrongArgument("look 2", () -> x.look(0, 2));
        Due.wrongArgument("look -1", () -> x.look(0, -1));
    }
}
