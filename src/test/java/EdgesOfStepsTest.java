/** The edges of steps, hours, works undone and images: part 2 of the document, and promises 5, 8, 9, 40 and 41. */
public final class EdgesOfStepsTest {
    public static void main(String[] args) {
        atFirst();
        wipe();
        lift();
        lower();
        crack();
        air();
        tap();
        fern();
        dawn();
        hour900();
        coughs();
        mistOf99();
        airOf0To99();
        gasps();
        mistOf50();
        cloudedOnceADay();
        tapsOfAnHour();
        elders();
        twoHundredSteps();
        whatIsLeftOut();
        stepsCounted();
        sixteenWorks();
        undoOfAll();
        refusedByTheLatest();
        threeImages();
        whatAnImageKeeps();
        Due.end();
    }

    private static void done(FernHeirs x, String step) {
        Due.row("done: " + step, "1 0", () -> Due.work(x, step), () -> x.told(10));
    }

    /** Refused, and changes nothing; it is a work all the same. */
    private static void refused(FernHeirs x, String step) {
        String before = Due.morning(x);
        int works = x.count(2);
        Due.row("refused: " + step, "0 1 " + (works + 1), () -> Due.work(x, step), () -> x.told(10), () -> x.count(2));
        Due.asBefore("refused: " + step, before, Due.morning(x));
    }

    /** B, ferns, mist, air, cracks, taps, whether it stands. */
    private static void glass(String when, FernHeirs x, int heir, String want) {
        Due.row(when, want, () -> x.heir(heir, 0), () -> x.heir(heir, 1), () -> x.heir(heir, 2), () -> x.heir(heir, 3),
                () -> x.heir(heir, 4), () -> x.heir(heir, 5), () -> x.heir(heir, 6));
    }

    private static void atFirst() {
        FernHeirs x = Due.of("heir 3 4;heir 9 0;hears 0 1;keeper 1 1;");
        glass("a glass at first", x, 0, "3 4 0 99 0 0 1");
        glass("the other one", x, 1, "9 0 0 99 0 0 1");
        Due.row("hour 0, nobody clouded", "0 3 0 -1 0 -1 -1 0 0", () -> x.told(3), () -> x.told(4), () -> x.told(5), () -> x.told(6),
                () -> x.told(8), () -> x.heir(0, 7), () -> x.heir(1, 7), () -> x.told(10), () -> x.told(11));
    }

    // ---- steps ----

    private static void wipe() {
        FernHeirs x = Due.of("heir 1 0;heir 1 1;", "1");
        refused(x, "wipe 0;");
        Due.work(x, "hour;");
        done(x, "wipe 0;");
        glass("a mist of 1 is wiped", x, 0, "1 0 0 98 0 0 1");
        Due.same("the other stays", x.heir(1, 2), 1);
        refused(x, "wipe 0;");
        Due.work(x, "lift 1;");
        refused(x, "wipe 1;");
    }

    private static void lift() {
        FernHeirs x = Due.of("heir 9 0;heir 1 5;hears 0 1;");
        done(x, "lift 1;");
        glass("a fresh glass is lifted, too", x, 1, "1 5 0 99 0 0 0");
        Due.work(x, "crack 0;crack 0;hour;hour;hour;lower 1;tap 1;tap 1;again 11[hour;];tap 1;");
        glass("ahead of the lift", x, 0, "9 0 99 0 2 1 1");
        Due.row("it clouded, it gasped", "2 4", () -> x.heir(0, 7), () -> x.heir(0, 8));
        done(x, "lift 0;");
        glass("no mist, air 99, no taps", x, 0, "9 0 0 99 2 0 0");
        Due.row("cracks stay, and what was", "2 4 2", () -> x.heir(0, 7), () -> x.heir(0, 8), () -> x.told(4));
        refused(x, "lift 0;");
        Due.work(x, "hour;hour;");
        glass("nothing comes on a glass that is off", x, 0, "9 0 0 99 2 0 0");
        Due.row("nor does the heir gasp", "2 4", () -> x.heir(0, 7), () -> x.heir(0, 8));
    }

    private static void lower() {
        FernHeirs x = Due.of("heir 9 0;heir 1 5;");
        refused(x, "lower 0;");
        Due.work(x, "crack 0;hour;lift 0;");
        done(x, "lower 0;");
        glass("it stands again", x, 0, "9 0 0 99 1 0 1");
        Due.same("both stand", x.told(4), 3);
        refused(x, "lower 0;");
    }

    private static void crack() {
        FernHeirs x = Due.of("heir 9 0;heir 1 5;");
        for (int cracks = 1; cracks <= 3; cracks++) {
            done(x, "crack 0;");
            Due.same("cracks", x.heir(0, 4), cracks);
        }
        refused(x, "crack 0;");
        done(x, "crack 1;");
        Due.work(x, "lift 1;");
        refused(x, "crack 1;");
        Due.work(x, "lower 1;");
        done(x, "crack 1;");
        Due.row("three and two", "3 2", () -> x.heir(0, 4), () -> x.heir(1, 4));
    }

    private static void air() {
        FernHeirs x = Due.of("heir 1 0;heir 1 1;");
        refused(x, "air 0;");
        Due.work(x, "hour;");
        done(x, "air 0;");
        Due.same("98 and 40 are 99", x.heir(0, 3), 99);
        refused(x, "air 0;");
        airAfter(40, 59, 99);
        airAfter(41, 58, 98);
        airAfter(39, 60, 99);
        airAfter(98, 1, 41);
        airAfter(99, 0, 40);
        airAfter(100, 0, 40);
        Due.work(x, "lift 1;");
        refused(x, "air 1;");
        Due.work(x, "lower 1;hour;");
        done(x, "air 0;");
        refused(x, "air 1;");
    }

    private static void airAfter(int hours, int air, int more) {
        FernHeirs x = Due.of("heir 1 0;");
        Due.work(x, "again " + hours / 10 + "[again 10[hour;];];again " + hours % 10 + "[hour;];");
        Due.row("hours and air", hours + " " + air, () -> x.told(3), () -> x.heir(0, 3));
        done(x, "air 0;");
        Due.same("40 more than " + air + ", 99 at most", x.heir(0, 3), more);
    }

    private static void tap() {
        FernHeirs x = Due.of("heir 1 0;heir 1 0;heir 1 0;heir 1 0;hears 0 1;hears 2 0;");
        done(x, "tap 3;");
        Due.row("nobody is a two with 3", "0 0 0 0", () -> x.heir(0, 5), () -> x.heir(1, 5), () -> x.heir(2, 5), () -> x.heir(3, 5));
        done(x, "tap 0;");
        Due.row("who is a two, not the own one", "0 1 1 0", () -> x.heir(0, 5), () -> x.heir(1, 5), () -> x.heir(2, 5), () -> x.heir(3, 5));
        Due.work(x, "lift 1;lift 2;");
        done(x, "tap 0;");
        Due.row("none whose glass is off", "0 0 0", () -> x.heir(0, 5), () -> x.heir(1, 5), () -> x.heir(2, 5));
        refused(x, "tap 1;");
        Due.work(x, "lower 1;");
        done(x, "tap 1;");
        Due.row("taps are not passed on by themselves", "1 0 0", () -> x.heir(0, 5), () -> x.heir(1, 5), () -> x.heir(2, 5));
        Due.work(x, "lower 2;hour;");
        done(x, "tap 2;");
        Due.row("by who is a two alone", "1 0 0", () -> x.heir(0, 5), () -> x.heir(1, 5), () -> x.heir(2, 5));
        FernHeirs y = Due.of("heir 1 0;heir 1 0;hears 0 1;");
        Due.row("more taps than 99", "193 193", () -> Due.work(y, "again 30[tap 0;];".repeat(7)), () -> y.heir(1, 5));
        Due.row("no most of them", "193 386", () -> Due.work(y, "again 30[tap 0;];".repeat(7)), () -> y.heir(1, 5));
    }

    private static void fern() {
        FernHeirs x = Due.of("heir 1 0;heir 1 9;");
        refused(x, "fern 0 0;");
        refused(x, "fern 1 9;");
        done(x, "fern 0 9;");
        refused(x, "fern 0 9;");
        done(x, "fern 0 0;");
        done(x, "fern 1 8;");
        Due.work(x, "lift 1;");
        refused(x, "fern 1 8;");
        done(x, "fern 1 7;");
        Due.row("by a glass that is off, too", "0 7", () -> x.heir(0, 1), () -> x.heir(1, 1));
    }

    private static void dawn() {
        FernHeirs x = Due.of("heir 9 7;heir 9 7;");
        done(x, "dawn;");
        Due.work(x, "hour;hour;lift 1;");
        Due.same("both clouded", x.told(5), 3);
        done(x, "dawn;");
        Due.row("nobody clouded, the glass off or not", "0 -1 -1 -1 50 2", () -> x.told(5), () -> x.told(6), () -> x.heir(0, 7),
                () -> x.heir(1, 7), () -> x.heir(0, 2), () -> x.told(3));
        done(x, "dawn;");
    }

    // ---- hours ----

    private static void hour900() {
        FernHeirs x = Due.of("heir 1 1;", "1");
        for (int i = 0; i < 4; i++) {
            Due.same("190 hours", Due.work(x, "again 10[again 19[hour;];];"), 189);
        }
        Due.row("899", "143 899", () -> Due.work(x, "again 11[again 13[hour;];];"), () -> x.told(3));
        Due.work(x, "wipe 0;");
        done(x, "hour;");
        Due.row("to 900", "900 1", () -> x.told(3), () -> x.told(11));
        refused(x, "hour;");
        refused(x, "hour;");
        Due.row("all of an again, too", "1 30 900", () -> Due.work(x, "again 30[hour;];crack 0;"), () -> x.told(10), () -> x.told(3));
        Due.row("undone to 899", "9 8 7 6 899", x::undo, x::undo, x::undo, x::undo, () -> x.told(3));
        Due.row("one of two", "1 1 900", () -> Due.work(x, "hour;hour;"), () -> x.told(10), () -> x.told(3));
        Due.row("hours ahead go by", "1 2 41", () -> x.ahead(0, 0), () -> x.ahead(1, 0), () -> x.ahead(40, 0));
    }

    private static void coughs() {
        FernHeirs x = Due.of("heir 9 9;heir 9 9;keeper 0 24;keeper 0 1;keeper 0 2;keeper 1 7;", "20 - taps");
        int[] due = {17, 19, 18, 19, 18, 19, 18, 19, 18};
        int[] other = {19, 20, 20, 20, 20, 20, 20, 19, 20};
        for (int hour = 0; hour < due.length; hour++) {
            Due.work(x, "wipe 0;wipe 1;hour;");
            Due.row("coughs in hour " + hour, due[hour] + " " + other[hour], () -> x.heir(0, 2), () -> x.heir(1, 2));
            Due.row("nobody has heard them any more", "0 0", () -> x.heir(0, 5), () -> x.heir(1, 5));
        }
        Due.work(x, "again 14[hour;];wipe 0;wipe 1;hour;");
        Due.row("hour 23", "24 19 20", () -> x.told(3), () -> x.heir(0, 2), () -> x.heir(1, 2));
        Due.work(x, "wipe 0;wipe 1;hour;");
        Due.row("hour 24 is a multiple of 24", "25 17 20", () -> x.told(3), () -> x.heir(0, 2), () -> x.heir(1, 2));
        FernHeirs y = Due.of("heir 9 9;keeper 0 1;", "20 - taps");
        Due.work(y, "lift 0;hour;hour;lower 0;");
        Due.row("a glass that was off heard none", "0 20", () -> y.heir(0, 5), () -> y.cloud(0));
    }

    private static void mistOf99() {
        FernHeirs x = Due.of("heir 9 9;heir 9 9;", "14 + heir * 19");
        Due.work(x, "again 3[hour;];");
        Due.row("three hours", "42 99", () -> x.heir(0, 2), () -> x.heir(1, 2));
        Due.work(x, "again 4[hour;];");
        Due.same("98", x.heir(0, 2), 98);
        Due.law(x, "1");
        Due.work(x, "hour;");
        Due.same("99", x.heir(0, 2), 99);
        Due.work(x, "hour;");
        Due.row("99 at most", "99 99 198", () -> x.heir(0, 2), () -> x.heir(1, 2), () -> x.told(11));
        FernHeirs y = Due.of("heir 9 9;", "40 - mist / 99");
        Due.work(y, "hour;hour;hour;");
        Due.row("80 and 40 are 99", "99 39", () -> y.heir(0, 2), () -> y.cloud(0));
        Due.work(y, "wipe 0;hour;");
        Due.same("no less than there was", y.heir(0, 2), 40);
        Due.law(y, "0 - 7");
        Due.work(y, "hour;");
        Due.same("nothing comes out", y.heir(0, 2), 40);
    }

    private static void airOf0To99() {
        FernHeirs x = Due.of("heir 9 0;heir 1 9;heir 5 5;");
        Due.work(x, "hour;");
        Due.row("less by 9, no more than 99", "90 99 99", () -> x.heir(0, 3), () -> x.heir(1, 3), () -> x.heir(2, 3));
        Due.work(x, "again 9[hour;];");
        Due.same("9 is left", x.heir(0, 3), 9);
        Due.work(x, "hour;");
        Due.same("0 is left", x.heir(0, 3), 0);
        Due.work(x, "hour;fern 1 0;again 12[hour;];fern 1 9;");
        Due.row("no less than 0", "0 87", () -> x.heir(0, 3), () -> x.heir(1, 3));
        Due.work(x, "hour;");
        Due.same("95", x.heir(1, 3), 95);
        Due.work(x, "hour;");
        Due.row("99, not 103", "99 0", () -> x.heir(1, 3), () -> x.heir(0, 3));
        FernHeirs y = Due.of("heir 7 0;");
        Due.work(y, "again 14[hour;];");
        Due.row("1 is left", "1 0", () -> y.heir(0, 3), () -> y.heir(0, 8));
        Due.work(y, "hour;fern 0 8;hour;");
        Due.same("0 and 1, not less by 6", y.heir(0, 3), 1);
        FernHeirs w = Due.of("heir 9 0;", "air - 60");
        Due.work(w, "hour;");
        Due.row("what comes on the glass comes ahead of that", "39 90", () -> w.heir(0, 2), () -> w.heir(0, 3));
        FernHeirs z = Due.of("heir 8 0;");
        Due.work(z, "again 12[hour;];fern 0 7;hour;hour;");
        Due.row("3, then 2, then 1: at once less and more", "1 0", () -> z.heir(0, 3), () -> z.heir(0, 8));
    }

    private static void gasps() {
        FernHeirs x = Due.of("heir 9 0;heir 7 0;");
        Due.work(x, "again 10[hour;];");
        Due.row("an air of 9", "0 0", () -> x.heir(0, 8), () -> x.told(8));
        Due.work(x, "hour;");
        Due.row("an air of just 0", "0 1 1", () -> x.heir(0, 3), () -> x.heir(0, 8), () -> x.told(8));
        Due.work(x, "hour;hour;hour;");
        Due.row("once an hour; the other has 1 left", "4 1 0 4", () -> x.heir(0, 8), () -> x.heir(1, 3), () -> x.heir(1, 8),
                () -> x.told(8));
        Due.work(x, "hour;");
        Due.row("below 0 is 0", "5 1 6", () -> x.heir(0, 8), () -> x.heir(1, 8), () -> x.told(8));
        Due.work(x, "fern 0 9;hour;");
        Due.row("as much as is breathed", "6 0", () -> x.heir(0, 8), () -> x.heir(0, 3));
        Due.work(x, "air 0;fern 0 0;again 4[hour;];");
        Due.row("with air none", "6 4", () -> x.heir(0, 8), () -> x.heir(0, 3));
        Due.work(x, "dawn;");
        Due.same("a dawn takes none", x.heir(0, 8), 6);
    }

    private static void mistOf50() {
        FernHeirs x = Due.of("heir 9 9;heir 9 9;", "25 - heir * (hour % 2)");
        Due.work(x, "hour;hour;");
        Due.row("50, and 49", "50 49 1 0", () -> x.heir(0, 2), () -> x.heir(1, 2), () -> x.told(5), () -> x.told(6));
        Due.row("in hour 1", "1 -1", () -> x.heir(0, 7), () -> x.heir(1, 7));
        Due.law(x, "1");
        Due.work(x, "hour;");
        Due.row("51, and 50", "51 50 3 1 2", () -> x.heir(0, 2), () -> x.heir(1, 2), () -> x.told(5), () -> x.heir(0, 7),
                () -> x.heir(1, 7));
        FernHeirs y = Due.of("heir 9 9;", "40");
        Due.work(y, "hour;");
        Due.row("40 in hour 0", "40 -1", () -> y.heir(0, 2), () -> y.heir(0, 7));
    }

    private static void cloudedOnceADay() {
        FernHeirs x = Due.of("heir 9 9;", "25");
        Due.work(x, "hour;hour;hour;");
        Due.same("since the dawn", x.heir(0, 7), 1);
        Due.work(x, "wipe 0;hour;hour;");
        Due.row("not again before the dawn", "50 1", () -> x.heir(0, 2), () -> x.heir(0, 7));
        Due.work(x, "dawn;");
        Due.row("mist by itself is no clouding", "50 -1", () -> x.heir(0, 2), () -> x.heir(0, 7));
        Due.work(x, "hour;");
        Due.row("in the first hour behind the dawn", "75 5", () -> x.heir(0, 2), () -> x.heir(0, 7));
        Due.work(x, "dawn;wipe 0;hour;");
        Due.row("wiped, not yet", "25 -1", () -> x.heir(0, 2), () -> x.heir(0, 7));
        Due.work(x, "lift 0;hour;hour;");
        Due.row("a glass that is off does not cloud", "0 -1 9", () -> x.heir(0, 2), () -> x.heir(0, 7), () -> x.told(3));
    }

    private static void tapsOfAnHour() {
        FernHeirs x = Due.of("heir 9 9;heir 9 9;heir 9 9;hears 0 1;hears 0 2;", "20 - taps");
        Due.work(x, "tap 0;tap 0;dawn;wipe 1;");
        Due.row("till the hour", "0 2 2", () -> x.heir(0, 5), () -> x.heir(1, 5), () -> x.heir(2, 5));
        Due.work(x, "hour;");
        Due.row("and no longer", "0 0 0 20 18 18", () -> x.heir(0, 5), () -> x.heir(1, 5), () -> x.heir(2, 5), () -> x.heir(0, 2),
                () -> x.heir(1, 2), () -> x.heir(2, 2));
    }

    private static void elders() {
        FernHeirs x = Due.of("heir 9 9;heir 9 9;heir 9 9;heir 9 9;", "25");
        Due.work(x, "hour;lift 1;lower 1;hour;");
        Due.row("of alike ones the least", "0 0 2 3 -1", () -> x.told(6), () -> x.rank(0), () -> x.rank(1), () -> x.rank(2),
                () -> x.rank(3));
        Due.work(x, "hour;");
        Due.row("who clouded later is behind", "0 0 2 3 1 -1 -1 -1", () -> x.told(6), () -> x.rank(0), () -> x.rank(1), () -> x.rank(2),
                () -> x.rank(3), () -> x.rank(4), () -> x.rank(5), () -> x.rank(6));
        Due.work(x, "dawn;wipe 0;lift 2;hour;");
        Due.row("the first of this day", "1 1 3 -1", () -> x.told(6), () -> x.rank(0), () -> x.rank(1), () -> x.rank(2));
        FernHeirs seven = Due.of("heir 9 9;".repeat(7), "25");
        Due.work(seven, "hour;hour;");
        Due.row("all seven", "127 6 0", () -> seven.told(5), () -> seven.rank(6), () -> seven.rank(0));
    }

    // ---- 200 steps ----

    private static void twoHundredSteps() {
        FernHeirs x = Due.of("heir 1 0;");
        String six = "again 30[hour;];".repeat(6);
        Due.row("199 are begun, the 200th is done", "193 193", () -> Due.work(x, six + "again 12[hour;];hour;"), () -> x.told(3));
        FernHeirs y = Due.of("heir 1 0;");
        Due.row("the 201st is not", "193 193 0", () -> Due.work(y, six + "again 12[hour;];hour;hour;crack 0;"), () -> y.told(3),
                () -> y.heir(0, 4));
        FernHeirs z = Due.of("heir 1 0;");
        Due.row("an again is the 200th", "192 192", () -> Due.work(z, six + "again 12[hour;];again 9[hour;];"), () -> z.told(3));
        FernHeirs w = Due.of("heir 1 0;");
        Due.row("its first step is the 200th", "192 192", () -> Due.work(w, six + "again 11[hour;];again 9[hour;];hour;"), () -> w.told(3));
        FernHeirs v = Due.of("heir 1 0;");
        String refused = "again 30[lower 0;];".repeat(6) + "again 12[lower 0;];";
        Due.row("refused ones are begun, too", "0 193 0", () -> Due.work(v, refused + "lower 0;crack 0;"), () -> v.told(10),
                () -> v.heir(0, 4));
        Due.row("199 of them", "1 192 1", () -> Due.work(v, refused + "crack 0;"), () -> v.told(10), () -> v.heir(0, 4));
    }

    private static void whatIsLeftOut() {
        FernHeirs x = Due.of("heir 1 0;");
        // 1 and 22 times 9 are begun, then an again.
        Due.row("agains each time they are come to", "154 22 154 0", () -> Due.work(x, "again 30[again 7[hour;];lower 0;];crack 0;"),
                () -> x.told(10), () -> x.told(3), () -> x.heir(0, 4));
        FernHeirs y = Due.of("heir 1 0;");
        Due.row("empty agains", "0 0 0", () -> Due.work(y, "again 30[again 30[again 0[hour;];];];crack 0;"), () -> y.told(10),
                () -> y.told(3));
        FernHeirs z = Due.of("heir 1 0;");
        Due.row("199 empty ones", "1 1", () -> Due.work(z, "again 9[again 21[again 0[];];];crack 0;"), () -> z.heir(0, 4));
        Due.row("200 are begun anew by the next work", "1 2", () -> Due.work(z, "crack 0;"), () -> z.heir(0, 4));
    }

    private static void stepsCounted() {
        FernHeirs x = Due.of("heir 1 0;");
        Due.row("no steps", "0 0", () -> Due.work(x, ""), () -> x.told(10));
        Due.row("agains are not counted", "4 0", () -> Due.work(x, "again 2[again 1[hour;];again 0[hour;];dawn;];"), () -> x.told(10));
        Due.row("nor refused ones", "2 2", () -> Due.work(x, "lower 0;crack 0;air 0;lower 0;"), () -> x.told(10));
    }

    // ---- works and images ----

    private static void sixteenWorks() {
        FernHeirs x = Due.of("heir 9 0;heir 1 1;keeper 0 2;");
        for (int works = 1; works <= 15; works++) {
            Due.work(x, works % 2 == 0 ? "" : "hour;");
        }
        Due.row("the 16th", "1 16 2", () -> Due.work(x, "hour;lower 0;lower 1;"), () -> x.count(2), () -> x.told(10));
        String before = Due.all(x);
        Due.row("the 17th, its tape, its fault", "-20 0 -1", () -> Due.work(x, "hour;"), () -> x.count(1), x::fault);
        Due.row("ahead of the fault", "-20 0 -1", () -> Due.work(x, "no such step"), () -> x.count(1), x::fault);
        Due.row("of no bytes", "-20 -1", () -> x.work(0), x::fault);
        Due.law(x, "?");
        Due.row("it takes the fault of another text away", "-20 -1", () -> Due.work(x, "hour"), x::fault);
        Due.asBefore("a 17th work", before, Due.all(x));
        Due.feed(x, "hour;");
        Due.wrongArgument("behind the exception", () -> x.work(21));
        Due.wrongArgument("behind the exception", () -> x.work(-1));
        Due.row("the tape stays then", "20 2 2", () -> x.count(1), () -> x.status(1), () -> x.told(10));
        Due.row("one of them undone", "15 1 16 -20", x::undo, () -> x.work(5), () -> x.count(2), () -> Due.work(x, "hour;"));
    }

    private static void undoOfAll() {
        FernHeirs x = Due.of("heir 9 0;");
        Due.same("there is none", x.undo(), -1);
        String[] works = {"", "lower 0;", "again 3[];", "hour;", "hour;crack 0;", "dawn;"};
        for (int i = 0; i < 16; i++) {
            Due.work(x, works[i % 6]);
            Due.same("works that can be undone", x.count(2), i + 1);
        }
        Due.same("hours", x.told(3), 5);
        int[] hours = {0, 0, 0, 0, 1, 2, 2, 2, 2, 2, 3, 4, 4, 4, 4, 4};
        for (int left = 15; left >= 0; left--) {
            Due.row("undo", left + " " + left + " " + hours[left], x::undo, () -> x.count(2), () -> x.told(3));
        }
        String before = Due.all(x);
        Due.row("none is left", "-1 -1 0", x::undo, x::undo, () -> x.count(2));
        Due.asBefore("undo of none", before, Due.all(x));
        Due.row("a work with a fault is none", "-9 -1", () -> Due.work(x, "hour"), x::undo);
        Due.law(x, "5");
        Due.row("nor is a law", "-1 5", x::undo, () -> x.cloud(0));
    }

    private static void refusedByTheLatest() {
        FernHeirs x = Due.of("heir 9 0;");
        Due.same("ahead of any", x.told(10), 0);
        Due.row("three", "0 3", () -> Due.work(x, "again 3[lower 0;];"), () -> x.told(10));
        Due.row("the latest one counts", "0 1", () -> Due.work(x, "lower 0;"), () -> x.told(10));
        Due.row("one without refused ones", "1 0", () -> Due.work(x, "hour;"), () -> x.told(10));
        Due.row("behind undo, though the work ahead had one", "2 0", x::undo, () -> x.told(10));
        Due.row("behind undo of one with some", "0 2 2 0", () -> Due.work(x, "lower 0;wipe 0;"), () -> x.told(10), x::undo,
                () -> x.told(10));
        Due.row("behind an image they stay", "0 2 1 2", () -> Due.work(x, "lower 0;lower 0;"), () -> x.told(10), x::image,
                () -> x.told(10));
        Due.row("behind restore", "0 0", x::restore, () -> x.told(10));
        Due.row("behind a court with a fault they stay", "0 1 -8 1", () -> Due.work(x, "wipe 0;"), () -> x.told(10),
                () -> Due.court(x, "sun 24;"), () -> x.told(10));
        Due.row("behind a law, a book, a work with a fault, too", "1 0 -9 1", () -> Due.law(x, "1"), () -> Due.book(x, ""),
                () -> Due.work(x, "?"), () -> x.told(10));
        Due.row("behind a court without", "0 0", () -> Due.court(x, ""), () -> x.told(10));
    }

    private static void threeImages() {
        FernHeirs x = Due.of("heir 9 0;heir 2 2;");
        String none = Due.all(x);
        Due.row("there is none", "-1 0", x::restore, () -> x.count(0));
        Due.asBefore("restore of none", none, Due.all(x));
        for (int images = 1; images <= 3; images++) {
            Due.row("image", images + " " + images, x::image, () -> x.count(0));
            Due.work(x, "hour;");
        }
        String three = Due.all(x);
        Due.row("there are three", "-1 -1 3", x::image, x::image, () -> x.count(0));
        Due.asBefore("a fourth image", three, Due.all(x));
        Due.row("the latest first", "2 2 2 2", x::restore, () -> x.count(0), () -> x.told(3), () -> x.count(2));
        Due.row("then the one ahead", "1 1 1 1", x::restore, () -> x.count(0), () -> x.told(3), () -> x.count(2));
        Due.row("then the first", "0 0 0 0", x::restore, () -> x.count(0), () -> x.told(3), () -> x.count(2));
        Due.row("none is left", "-1 0", x::restore, () -> x.told(3));
        Due.row("there is room for three again", "1 2 3 -1", x::image, x::image, x::image, x::image);
        Due.row("none of them behind a court", "1 0 -1", () -> Due.court(x, "heir 1 1;"), () -> x.count(0), x::restore);
    }

    private static void whatAnImageKeeps() {
        FernHeirs x = Due.of("heir 9 0;heir 2 2;hears 0 1;", "25 + breath");
        Due.work(x, "again 11[hour;];crack 0;fern 1 5;tap 0;tap 1;");
        Due.work(x, "lift 1;");
        String kept = Due.morning(x);
        x.image();
        Due.work(x, "dawn;lower 1;wipe 0;hour;air 0;crack 0;fern 0 3;");
        Due.row("works and others undone", "2 1 0", x::undo, x::undo, x::undo);
        Due.work(x, "crack 1;");
        Due.law(x, "3");
        Due.book(x, "7 7;");
        Due.noSuch("a refusal", () -> x.heir(2, 0));
        Due.feed(x, "hour;");
        Due.row("restored", "0 2 0", x::restore, () -> x.count(2), () -> x.told(10));
        Due.asBefore("what work changes", kept, Due.morning(x));
        Due.row("law, book, tape, refusals are no part of it", "3 1 20 1", () -> x.cloud(0), () -> x.told(9), () -> x.count(1),
                () -> x.status(0));
        Due.row("its works can be undone", "1 3 0 0 0 -1", x::undo, () -> x.told(4), x::undo, () -> x.told(3), () -> x.heir(0, 4), x::undo);
        Due.same("the tape is emptied", x.law(0), -9);
        Due.row("two works, kept, undone, two others", "1 1 1 1 0 1 1", () -> Due.work(x, "crack 0;"), () -> Due.work(x, "hour;"),
                x::image, x::undo,
                x::undo, () -> Due.work(x, "hour;"), () -> Due.work(x, "hour;"));
        Due.row("the image has its own", "0 1 1 0 0 0", x::restore, () -> x.told(3), x::undo, () -> x.told(3), x::undo, () -> x.heir(0, 4));
        FernHeirs y = Due.of("heir 9 0;");
        for (int works = 0; works < 16; works++) {
            Due.work(y, "hour;");
        }
        y.image();
        Due.row("all sixteen works", "15 14 0 16 -20 16", y::undo, y::undo, y::restore, () -> y.count(2), () -> Due.work(y, "hour;"),
                () -> y.told(3));
        Due.row("down to the first", "15 14 13 12", y::undo, y::undo, y::undo, y::undo);
        Due.same("hours", y.told(3), 12);
    }
}
