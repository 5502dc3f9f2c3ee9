/** Promise 5, and what the steps of a work do: promises 8 to 10 see it. */
public final class WorksTest {
    public static void main(String[] args) {
        glasses();
        taps();
        hours();
        air();
        keepers();
        clouded();
        manySteps();
        manyWorks();
        lastHour();
        Due.end();
    }

    private static void step(FernHeirs x, String step, boolean done) {
        Due.same("work " + step, Due.work(x, step), done ? 1 : 0);
        Due.same("refused by " + step, x.told(10), done ? 0 : 1);
        x.image();
        x.restore();
    }

    private static void glasses() {
        FernHeirs x = Due.of("heir 5 2;heir 9 0;hears 0 1;");
        step(x, "wipe 0;", false);
        step(x, "air 0;", false);
        step(x, "lower 0;", false);
        step(x, "fern 0 2;", false);
        step(x, "fern 0 3;", true);
        Due.same("ferns", x.heir(0, 1), 3);
        step(x, "crack 0;", true);
        step(x, "crack 0;", true);
        step(x, "crack 0;", true);
        step(x, "crack 0;", false);
        Due.work(x, "tap 1;hour;tap 1;");
        Due.row("ahead of the lift", "12 97 3 1 1", () -> x.heir(0, 2), () -> x.heir(0, 3), () -> x.heir(0, 4),
                () -> x.heir(0, 5), () -> x.heir(0, 6));
        step(x, "lift 0;", true);
        Due.row("lifted", "3 0 99 3 0 0 2", () -> x.heir(0, 1), () -> x.heir(0, 2), () -> x.heir(0, 3), () -> x.heir(0, 4),
                () -> x.heir(0, 5), () -> x.heir(0, 6), () -> x.told(4));
        FernHeirs y = Due.of("heir 5 2;heir 9 0;hears 0 1;");
        Due.work(y, "crack 0;hour;lift 0;");
        step(y, "lift 0;", false);
        step(y, "crack 0;", false);
        step(y, "air 0;", false);
        step(y, "tap 0;", false);
        step(y, "wipe 0;", false);
        step(y, "fern 0 9;", true);
        step(y, "lower 0;", true);
        step(y, "lower 0;", false);
        Due.row("lowered", "9 0 99 1 0 1", () -> y.heir(0, 1), () -> y.heir(0, 2), () -> y.heir(0, 3), () -> y.heir(0, 4),
                () -> y.heir(0, 5), () -> y.heir(0, 6));
        step(y, "crack 0;", true);
        step(y, "wipe 1;", true);
        Due.row("wiped", "0 90", () -> y.heir(1, 2), () -> y.heir(1, 3));
        step(y, "dawn;", true);
    }

    private static void taps() {
        FernHeirs x = Due.of("heir 1 0;heir 1 0;heir 1 0;heir 1 0;hears 0 1;hears 2 0;hears 2 3;");
        Due.same("taps", Due.work(x, "tap 0;tap 0;tap 3;tap 1;lift 2;tap 0;tap 3;"), 7);
        Due.row("heard", "1 3 0 0", () -> x.heir(0, 5), () -> x.heir(1, 5), () -> x.heir(2, 5), () -> x.heir(3, 5));
        Due.work(x, "lower 2;");
        Due.same("none come back", x.heir(2, 5), 0);
        Due.work(x, "tap 0;hour;");
        Due.row("nobody has heard them any more", "0 0 0", () -> x.heir(0, 5), () -> x.heir(1, 5), () -> x.heir(2, 5));
        Due.row("each took one off", "1 0 1 2", () -> x.heir(0, 2), () -> x.heir(1, 2), () -> x.heir(2, 2), () -> x.heir(3, 2));
    }

    private static void hours() {
        FernHeirs x = Due.of("heir 9 4;heir 1 0;heir 9 9;");
        Due.same("two hours, two on one glass", Due.work(x, "hour;lift 1;hour;"), 3);
        Due.row("mist and air", "44 89 0 99 54 99 2 98", () -> x.heir(0, 2), () -> x.heir(0, 3), () -> x.heir(1, 2),
                () -> x.heir(1, 3), () -> x.heir(2, 2), () -> x.heir(2, 3), () -> x.told(3), () -> x.told(11));
        Due.work(x, "hour;hour;hour;");
        Due.row("99 at most", "99 99 198", () -> x.heir(0, 2), () -> x.heir(2, 2), () -> x.told(11));
        FernHeirs y = Due.of("heir 1 0;", "mist + 1");
        Due.work(y, "hour;hour;hour;");
        Due.same("mist is what was on it", y.heir(0, 2), 7);
        FernHeirs z = Due.of("heir 3 1;", "air - 90");
        Due.work(z, "hour;hour;");
        Due.row("air is what there was", "16 95", () -> z.heir(0, 2), () -> z.heir(0, 3));
    }

    private static void air() {
        FernHeirs x = Due.of("heir 9 0;heir 5 3;");
        Due.work(x, "again 10[hour;];");
        Due.row("air", "9 0 79 0", () -> x.heir(0, 3), () -> x.heir(0, 8), () -> x.heir(1, 3), () -> x.heir(1, 8));
        Due.work(x, "hour;");
        Due.row("it gasps", "0 1 1", () -> x.heir(0, 3), () -> x.heir(0, 8), () -> x.told(8));
        Due.work(x, "hour;");
        Due.row("and again", "0 2 2", () -> x.heir(0, 3), () -> x.heir(0, 8), () -> x.told(8));
        Due.work(x, "air 0;");
        Due.row("40 more", "40 2", () -> x.heir(0, 3), () -> x.heir(0, 8));
        Due.work(x, "air 0;air 0;air 0;");
        Due.row("99 at most", "99 1", () -> x.heir(0, 3), () -> x.told(10));
        FernHeirs y = Due.of("heir 7 4;");
        Due.work(y, "again 30[hour;];hour;hour;hour;");
        Due.row("less by breath, more by ferns at once", "0 1", () -> y.heir(0, 3), () -> y.heir(0, 8));
        Due.work(y, "fern 0 8;hour;");
        Due.row("more again", "1 1", () -> y.heir(0, 3), () -> y.heir(0, 8));
        Due.work(y, "again 30[again 4[hour;];];");
        Due.same("never more than 99", y.heir(0, 3), 99);
    }

    private static void keepers() {
        FernHeirs x = Due.of("heir 9 0;heir 9 0;keeper 0 2;keeper 0 3;keeper 1 24;hears 0 1;");
        Due.work(x, "hour;");
        Due.row("hour 0 is a multiple of all", "16 17", () -> x.heir(0, 2), () -> x.heir(1, 2));
        Due.work(x, "hour;");
        Due.row("hour 1 of none", "34 35", () -> x.heir(0, 2), () -> x.heir(1, 2));
        Due.work(x, "hour;");
        Due.row("hour 2 of one", "51 53", () -> x.heir(0, 2), () -> x.heir(1, 2));
        Due.work(x, "lift 0;lower 0;lift 1;hour;");
        Due.row("hour 3, one glass is off", "17 0", () -> x.heir(0, 2), () -> x.heir(1, 2));
        Due.work(x, "tap 0;hour;");
        Due.row("hour 4", "34 0", () -> x.heir(0, 2), () -> x.heir(1, 2));
        Due.row("coughs last no longer than the hour", "0 0", () -> x.heir(0, 5), () -> x.heir(1, 5));
    }

    private static void clouded() {
        FernHeirs x = Due.of("heir 9 7;heir 5 0;heir 9 7;heir 7 9;");
        Due.work(x, "hour;hour;");
        Due.row("50 is enough, 46 is not", "50 20 50 46 5", () -> x.heir(0, 2), () -> x.heir(1, 2), () -> x.heir(2, 2),
                () -> x.heir(3, 2), () -> x.told(5));
        Due.row("at hour 1", "1 -1 1 -1 0 0 2 -1", () -> x.heir(0, 7), () -> x.heir(1, 7), () -> x.heir(2, 7),
                () -> x.heir(3, 7), () -> x.told(6), () -> x.rank(0), () -> x.rank(1), () -> x.rank(2));
        Due.work(x, "hour;wipe 0;hour;hour;hour;");
        Due.row("later ones", "1 4 1 2 15 0", () -> x.heir(0, 7), () -> x.heir(1, 7), () -> x.heir(2, 7), () -> x.heir(3, 7),
                () -> x.told(5), () -> x.told(6));
        Due.row("ranks", "0 2 3 1 -1 -1 -1", () -> x.rank(0), () -> x.rank(1), () -> x.rank(2), () -> x.rank(3),
                () -> x.rank(4), () -> x.rank(5), () -> x.rank(6));
        Due.work(x, "lift 0;");
        Due.same("who clouded stays so, the glass off", x.told(6), 0);
        Due.work(x, "dawn;");
        Due.row("dawn", "0 -1 -1 -1", () -> x.told(5), () -> x.told(6), () -> x.rank(0), () -> x.heir(2, 7));
        Due.work(x, "wipe 2;hour;");
        Due.row("the next hour", "10 1 6 6", () -> x.told(5), () -> x.told(6), () -> x.heir(1, 7), () -> x.heir(3, 7));
        FernHeirs y = Due.of("heir 9 9;", "25");
        Due.work(y, "hour;hour;");
        Due.row("50 at hour 1", "50 1", () -> y.heir(0, 2), () -> y.heir(0, 7));
        FernHeirs z = Due.of("heir 9 9;", "mist + 7");
        Due.work(z, "hour;hour;hour;wipe 0;again 2[hour;];");
        Due.row("49 is not enough", "21 -1", () -> z.heir(0, 2), () -> z.heir(0, 7));
        Due.work(z, "wipe 0;hour;hour;hour;");
        Due.row("49 is not enough", "49 -1", () -> z.heir(0, 2), () -> z.heir(0, 7));
    }

    private static void manySteps() {
        FernHeirs x = Due.of("heir 1 9;heir 1 9;");
        Due.row("an empty work", "0 0 1 -1", () -> Due.work(x, " "), () -> x.told(10), () -> x.count(2), x::fault);
        Due.row("again none", "1 1", () -> Due.work(x, "again 0[hour;hour;];hour;"), () -> x.told(3));
        Due.row("agains in agains", "13 13", () -> Due.work(x, "again 3[hour;again 3[hour;];];hour;"), () -> x.told(3) - 1);
        Due.row("refused ones", "3 7", () -> Due.work(x, "again 4[lift 0;crack 0;];lower 0;crack 0;"), () -> x.told(10));
        FernHeirs y = new FernHeirs();
        Due.row("200 steps", "193 193", () -> Due.work(y, "again 6[again 30[hour;];];hour;hour;hour;hour;hour;hour;hour;hour;hour;"
                + "hour;hour;hour;hour;hour;hour;"), () -> y.told(3));
        FernHeirs z = Due.of("heir 1 0;");
        Due.row("an again counts each time it is come to", "170 170", () -> Due.work(z, "again 30[again 6[hour;];];"),
                () -> z.told(3));
        FernHeirs w = Due.of("heir 1 0;");
        Due.row("refused ones count", "3 189", () -> Due.work(w, "again 10[again 30[lower 0;];crack 0;];"), () -> w.told(10));
        Due.row("empty ones count", "0 0", () -> Due.work(w, "again 30[again 30[];again 30[];again 30[];again 30[];"
                + "again 30[];again 30[];again 30[];];hour;"), () -> w.told(3));
        Due.row("the 200th is done, the 201st is not", "193 192 1", () -> Due.work(w, "again 30[hour;];".repeat(6)
                + "again 12[hour;];fern 0 1;hour;"), () -> w.told(3), () -> w.heir(0, 1));
    }

    private static void manyWorks() {
        FernHeirs x = Due.of("heir 1 9;");
        for (int i = 1; i <= 16; i++) {
            Due.row("work " + i, "1 " + i, () -> Due.work(x, "hour;"), () -> x.count(2));
        }
        Due.same("a refused step in the 16th", x.told(10), 0);
        Due.row("a 17th", "-20 -1 0 16 16", () -> Due.work(x, "nonsense"), x::fault, () -> x.count(1), () -> x.count(2),
                () -> x.told(3));
        Due.feed(x, "hour;");
        Due.wrongArgument("a 17th of too many bytes", () -> x.work(21));
        Due.same("the tape", x.count(1), 20);
        Due.row("other texts are read", "-9 4", () -> x.law(5), x::fault);
        Due.row("a 17th again", "-20 -1", () -> Due.work(x, "hour;"), x::fault);
        Due.row("one undone", "15 15 1 16", x::undo, () -> x.told(3), () -> Due.work(x, "hour;"), () -> x.told(3));
        Due.row("a fault is no work", "15 -9 15 4", x::undo, () -> Due.work(x, "hour"), () -> x.count(2), x::fault);
    }

    private static void lastHour() {
        FernHeirs x = Due.of("heir 1 0;", "hour");
        for (int i = 0; i < 4; i++) {
            Due.same("190 hours", Due.work(x, "again 10[again 19[hour;];];"), 189);
        }
        Due.row("up to 899", "143 899", () -> Due.work(x, "again 13[again 11[hour;];];"), () -> x.told(3));
        Due.row("hour 900 is reached", "1 1 900", () -> Due.work(x, "hour;hour;"), () -> x.told(10), () -> x.told(3));
        Due.row("and none goes by", "0 3 900", () -> Due.work(x, "hour;hour;hour;"), () -> x.told(10), () -> x.told(3));
        Due.row("asked, they do", "900 12 12", () -> x.told(3), () -> x.cloud(0), () -> x.would(1, 0, 0, 0, 0, 0, 900 % 24, 0, 0));
        Due.work(x, "wipe 0;");
        Due.row("asked, they go by", "0 12 25 39", () -> x.ahead(0, 0), () -> x.ahead(1, 0), () -> x.ahead(2, 0),
                () -> x.ahead(3, 0));
        Due.row("clouds and gasps", "4 1", () -> x.clouds(0), () -> x.gasp(0));
        Due.same("a year", x.year(1, 1, 3), 0);
    }
}
