/** Promises 16 to 19: hours ahead. */
public final class AheadTest {
    public static void main(String[] args) {
        ahead();
        clouds();
        wipes();
        wipesAsDone();
        gasp();
        nothingStays();
        Due.end();
    }

    private static void ahead() {
        FernHeirs x = Due.of("heir 9 7;heir 9 0;heir 2 2;keeper 1 2;");
        Due.work(x, "lift 2;");
        Due.row("mist", "0 42 85 127", () -> x.ahead(0, 0), () -> x.ahead(1, 0), () -> x.ahead(2, 0), () -> x.ahead(3, 0));
        Due.row("who clouded", "0 0 1 3", () -> x.ahead(0, 1), () -> x.ahead(1, 1), () -> x.ahead(2, 1), () -> x.ahead(3, 1));
        Due.row("elder", "-1 -1 0 0", () -> x.ahead(0, 2), () -> x.ahead(1, 2), () -> x.ahead(2, 2), () -> x.ahead(99, 2));
        Due.row("gasps", "0 0 1 2 139", () -> x.ahead(0, 3), () -> x.ahead(10, 3), () -> x.ahead(11, 3), () -> x.ahead(12, 3),
                () -> x.ahead(99, 3));
        Due.work(x, "again 12[hour;];wipe 0;wipe 1;");
        Due.row("what was, counts too", "0 3 0 2 3 4", () -> x.ahead(0, 0), () -> x.ahead(0, 1), () -> x.ahead(0, 2),
                () -> x.ahead(0, 3), () -> x.ahead(1, 3), () -> x.ahead(2, 3));
        Due.wrongArgument("ahead 100", () -> x.ahead(100, 0));
        Due.wrongArgument("ahead -1", () -> x.ahead(-1, 0));
        Due.wrongArgument("ahead 0 4", () -> x.ahead(0, 4));
        Due.wrongArgument("ahead 0 -1", () -> x.ahead(0, -1));
    }

    private static void clouds() {
        FernHeirs x = Due.of("heir 9 7;heir 9 0;heir 1 0;heir 1 0;hears 0 1;keeper 3 1;");
        Due.row("clouds", "2 3 25 -1", () -> x.clouds(0), () -> x.clouds(1), () -> x.clouds(2), () -> x.clouds(3));
        Due.work(x, "tap 0;tap 0;tap 0;tap 0;tap 0;");
        Due.same("with taps that are heard", x.clouds(1), 4);
        Due.work(x, "hour;hour;");
        Due.row("later", "0 2 23", () -> x.clouds(0), () -> x.clouds(1), () -> x.clouds(2));
        Due.work(x, "lift 0;");
        Due.same("the glass is off", x.clouds(0), -1);
        Due.noSuch("clouds of none", () -> x.clouds(4));
        Due.noSuch("clouds of fewer", () -> x.clouds(-1));
        FernHeirs y = Due.of("heir 1 0;", "1 + hour / 23");
        Due.same("48 hours", y.clouds(0), 48);
        Due.law(y, "1");
        Due.same("50 hours", y.clouds(0), -1);
        Due.work(y, "hour;");
        Due.same("49 hours", y.clouds(0), -1);
        Due.work(y, "hour;");
        Due.same("48 hours", y.clouds(0), 48);
        Due.work(y, "lower 0;wipe 0;hour;");
        Due.same("a mist of 1", y.told(11), 1);
        Due.work(y, "wipe 0;");
        Due.row("is wiped", "0 0", () -> y.told(11), () -> y.told(10));
    }

    private static void wipes() {
        FernHeirs x = Due.of("heir 9 7;heir 9 0;heir 4 4;heir 9 0;");
        Due.row("nobody has mist", "0 -1 -1 -1", () -> x.wipes(0), () -> x.wipes(1), () -> x.wipes(2), () -> x.wipes(3));
        Due.work(x, "hour;hour;hour;hour;");
        // 99, 72, 48, 72: the first three cloud in the next hour, whoever clouded earlier
        Due.row("all cloud at once", "0 1 3 7", () -> x.wipes(0), () -> x.wipes(1), () -> x.wipes(2), () -> x.wipes(3));
        Due.work(x, "wipe 3;");
        Due.row("the last is behind all", "0 1 3 -1", () -> x.wipes(0), () -> x.wipes(1), () -> x.wipes(2), () -> x.wipes(3));
        Due.work(x, "lift 0;");
        Due.row("a glass is off", "-1 0 2 -1", () -> x.wipes(0), () -> x.wipes(1), () -> x.wipes(2), () -> x.wipes(3));
        FernHeirs seven = Due.of("heir 1 9;heir 1 8;heir 1 7;heir 1 6;heir 1 5;heir 1 4;heir 9 9;");
        Due.work(seven, "hour;");
        Due.row("seven", "-1 0", () -> seven.wipes(0), () -> seven.wipes(6));
        Due.noSuch("wipes of none", () -> x.wipes(4));
        Due.noSuch("wipes of fewer", () -> x.wipes(-1));
        FernHeirs y = Due.of("heir 1 0;", "1 + hour / 23");
        Due.same("not within 24 hours", y.wipes(0), -1);
        Due.row("not behind clouds of another one", "-1 0", () -> y.wipes(0), () -> Due.of("heir 1 0;heir 9 9;").wipes(1));
        Due.law(y, "2 + hour / 22");
        Due.same("in the 24th", y.wipes(0), 0);
    }

    /** By works that are undone again: each set of glasses wiped, dawn, 24 hours. */
    private static void wipesAsDone() {
        String[] laws = {"breath * 2 + ferns - taps", "mist % 7 + ferns", "40 - mist + heir", "sun * 40 + heir * 2"};
        String[] works = {"hour;", "tap 1;tap 1;hour;wipe 3;", "lift 4;hour;", "lower 4;wipe 0;hour;hour;", "air 2;fern 0 9;hour;"};
        for (int last = 0; last < works.length; last++) {
            for (String law : laws) {
                for (int h = 0; h < 5; h++) {
                    FernHeirs x = Due.of("heir 3 3;heir 5 2;heir 2 7;heir 4 4;heir 6 0;keeper 0 3;keeper 2 2;hears 1 3;hears 1 4;sun 5;");
                    for (int i = 0; i <= last; i++) {
                        Due.work(x, works[i]);
                    }
                    Due.law(x, law);
                    Due.same("wipes of " + h + " behind " + works[last] + " by " + law, x.wipes(h), tried(x, h));
                }
            }
        }
    }

    private static int tried(FernHeirs x, int heir) {
        int best = -1;
        for (int bits = 0; bits < 32; bits++) {
            if ((bits & 1 << heir) != 0 || (bits & ~x.told(4)) != 0
                    || best >= 0 && Integer.bitCount(bits) >= Integer.bitCount(best)) {
                continue;
            }
            StringBuilder work = new StringBuilder();
            for (int h = 0; h < 5; h++) {
                work.append((bits & 1 << h) != 0 ? "wipe " + h + ";" : "");
            }
            Due.work(x, work + "dawn;again 24[hour;];");
            best = x.told(6) == heir ? bits : best;
            x.undo();
        }
        return best;
    }

    private static void gasp() {
        FernHeirs x = Due.of("heir 9 0;heir 9 8;heir 9 9;heir 1 0;");
        Due.row("gasps", "11 99 -1 99", () -> x.gasp(0), () -> x.gasp(1), () -> x.gasp(2), () -> x.gasp(3));
        Due.work(x, "hour;");
        Due.row("an hour later", "10 98", () -> x.gasp(0), () -> x.gasp(1));
        Due.work(x, "again 12[hour;];");
        Due.row("who gasped does so again", "1 86", () -> x.gasp(0), () -> x.gasp(1));
        Due.work(x, "air 0;");
        Due.same("with air", x.gasp(0), 5);
        Due.work(x, "lift 0;");
        Due.same("the glass is off", x.gasp(0), -1);
        Due.work(x, "lower 0;fern 1 9;");
        Due.row("lowered, more ferns", "11 -1", () -> x.gasp(0), () -> x.gasp(1));
        Due.noSuch("gasp of none", () -> x.gasp(4));
        Due.noSuch("gasp of fewer", () -> x.gasp(-1));
    }

    private static void nothingStays() {
        FernHeirs x = Due.of("heir 9 0;heir 5 5;heir 9 9;hears 0 1;keeper 0 2;");
        Due.work(x, "hour;tap 0;crack 1;");
        String before = Due.all(x);
        for (int h = 0; h < 3; h++) {
            x.ahead(99, h);
            x.clouds(h);
            x.wipes(h);
            x.gasp(h);
            x.fits(h, 0);
            x.look(h, 0);
            x.cloud(h);
            x.year(h, 96, h);
            x.span(h, 20, 96, h);
            x.way(h, 0);
            x.seats();
            x.still();
        }
        Due.asBefore("asking", before, Due.all(x));
    }
}
