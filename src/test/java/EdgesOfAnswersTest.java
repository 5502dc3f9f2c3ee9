/** The edges of what is asked: part 3 of the document, and promises 9 to 39. */
public final class EdgesOfAnswersTest {
    private static final String SEVEN = "heir 1 0;".repeat(7);
    private static final String LINE = "hears 0 1;hears 1 2;hears 2 3;hears 3 4;hears 4 5;hears 5 6;";

    public static void main(String[] args) {
        noHeirs();
        nextCough();
        clouds0To40();
        would();
        aheadOf0And99();
        clouds0To48();
        wipes24();
        wipesOfWhom();
        coughsAhead();
        gasp1To99();
        way();
        hush();
        still();
        seats();
        fits();
        fitsFromNowOn();
        look();
        lots();
        regents();
        moss();
        backward();
        greenestAndStalest();
        ear();
        coughs();
        twins();
        sunny();
        gossip();
        years();
        yearsBeyond900();
        spans();
        Due.end();
    }

    private static void hours(FernHeirs x, int hours) {
        Due.same("hours", Due.work(x, "again " + hours / 12 + "[again 12[hour;];];again " + hours % 12 + "[hour;];"), hours);
    }

    private static FernHeirs atHour900(String court, String law) {
        FernHeirs x = Due.of(court, law);
        for (int i = 0; i < 6; i++) {
            hours(x, 150);
        }
        Due.same("hour 900", x.told(3), 900);
        return x;
    }

    private static void noHeirs() {
        FernHeirs x = new FernHeirs();
        Due.row("told", "0 0 -1 0 0", () -> x.told(4), () -> x.told(5), () -> x.told(6), () -> x.told(8), () -> x.told(11));
        Due.row("ahead", "0 0 -1 0 0 0", () -> x.ahead(99, 0), () -> x.ahead(99, 1), () -> x.ahead(99, 2), () -> x.ahead(99, 3),
                () -> x.ahead(0, 0), () -> x.ahead(0, 3));
        Due.row("still, seats, seat", "0 1 -1 -1", x::still, x::seats, () -> x.seat(0), () -> x.seat(Integer.MAX_VALUE));
        Due.row("greenest, stalest, twins, gossip", "-1 -1 -1 -1 0 -1 -1 -1", () -> x.greenest(0), () -> x.greenest(1), () -> x.stalest(0),
                () -> x.stalest(1), () -> x.twins(0), () -> x.twins(1), () -> x.gossip(0), () -> x.gossip(1));
        Due.row("year", "0 -1 0 0", () -> x.year(7, 96, 0), () -> x.year(7, 96, 1), () -> x.year(7, 96, 2), () -> x.year(7, 96, 3));
        Due.row("span", "0 0 0", () -> x.span(7, 20, 96, 0), () -> x.span(7, 20, 96, 1), () -> x.span(7, 20, 96, 2));
        Due.row("hours go by", "1 1 11", () -> Due.work(x, "hour;"), () -> x.told(3), x::sunny);
        Due.row("rank", "-1 -1", () -> x.rank(0), () -> x.rank(6));
    }

    private static void nextCough() {
        FernHeirs x = Due.of("heir 1 1;keeper 0 1;keeper 0 2;keeper 0 24;");
        Due.row("hour 0", "0 0 0", () -> x.keeper(0, 2), () -> x.keeper(1, 2), () -> x.keeper(2, 2));
        hours(x, 1);
        Due.row("hour 1", "0 1 23", () -> x.keeper(0, 2), () -> x.keeper(1, 2), () -> x.keeper(2, 2));
        hours(x, 22);
        Due.row("hour 23", "0 1 1", () -> x.keeper(0, 2), () -> x.keeper(1, 2), () -> x.keeper(2, 2));
        hours(x, 1);
        Due.row("hour 24", "0 0 0", () -> x.keeper(0, 2), () -> x.keeper(1, 2), () -> x.keeper(2, 2));
        FernHeirs y = atHour900("heir 1 1;keeper 0 24;keeper 0 7;keeper 0 9;", "1");
        Due.row("hour 900", "12 3 0", () -> y.keeper(0, 2), () -> y.keeper(1, 2), () -> y.keeper(2, 2));
    }

    private static void clouds0To40() {
        FernHeirs x = Due.of("heir 9 9;heir 1 0;hears 0 1;keeper 1 1;", "41 * breath / 9 - taps");
        Due.row("40 at most", "40 4", () -> x.cloud(0), () -> x.cloud(1));
        Due.work(x, "tap 0;tap 0;tap 0;tap 0;");
        Due.row("by taps heard, without the cough", "40 0", () -> x.cloud(0), () -> x.cloud(1));
        Due.work(x, "tap 0;tap 1;tap 1;");
        Due.row("0 at least; 39", "39 0", () -> x.cloud(0), () -> x.cloud(1));
        Due.work(x, "lift 0;");
        Due.same("the glass is off", x.cloud(0), 0);
        Due.work(x, "lower 0;");
        Due.same("it stands", x.cloud(0), 40);
    }

    private static void would() {
        FernHeirs x = new FernHeirs();
        Due.row("the usual law", "27 2 26 0 0", () -> x.would(9, 9, 0, 0, 0, 0, 0, 0, 0), () -> x.would(1, 0, 0, 99, 3, 99, 23, 1, 6),
                () -> x.would(9, 9, 1, 0, 0, 0, 0, 0, 0), () -> x.would(9, 9, 27, 0, 0, 0, 0, 0, 0),
                () -> x.would(9, 9, 28, 0, 0, 0, 0, 0, 0));
        Due.law(x, "breath * 2 + ferns * 3 - taps");
        Due.row("40 at most", "39 40 40", () -> x.would(9, 9, 6, 0, 0, 0, 0, 0, 0), () -> x.would(9, 9, 5, 0, 0, 0, 0, 0, 0),
                () -> x.would(9, 9, 4, 0, 0, 0, 0, 0, 0));
        String[] most = {"breath", "9", "ferns", "9", "taps - 960", "39", "air - 60", "39", "cracks", "3", "mist - 60", "39", "hour", "23",
            "sun", "1", "heir", "6"};
        for (int i = 0; i < most.length; i += 2) {
            Due.law(x, most[i]);
            Due.same("the most of " + most[i], x.would(9, 9, 999, 99, 3, 99, 23, 1, 6), Integer.parseInt(most[i + 1]));
            Due.same("the least of " + most[i], x.would(1, 0, 0, 0, 0, 0, 0, 0, 0), i == 0 ? 1 : 0);
        }
    }

    private static void aheadOf0And99() {
        FernHeirs x = Due.of("heir 9 8;heir 1 1;", "heir + 1");
        Due.row("now", "0 0 -1 0", () -> x.ahead(0, 0), () -> x.ahead(0, 1), () -> x.ahead(0, 2), () -> x.ahead(0, 3));
        Due.row("mist in 24, 25, 49, 50", "72 75 147 149", () -> x.ahead(24, 0), () -> x.ahead(25, 0), () -> x.ahead(49, 0),
                () -> x.ahead(50, 0));
        Due.row("who clouded", "0 2 2 3 3", () -> x.ahead(24, 1), () -> x.ahead(25, 1), () -> x.ahead(49, 1), () -> x.ahead(50, 1),
                () -> x.ahead(99, 1));
        Due.row("elder", "-1 1 1 1", () -> x.ahead(24, 2), () -> x.ahead(25, 2), () -> x.ahead(50, 2), () -> x.ahead(99, 2));
        Due.row("gasps in 98 and 99, mist in 98 and 99", "0 1 197 198", () -> x.ahead(98, 3), () -> x.ahead(99, 3), () -> x.ahead(98, 0),
                () -> x.ahead(99, 0));
        FernHeirs y = atHour900("heir 1 1;", "hour");
        Due.work(y, "wipe 0;");
        Due.row("beyond 900: hours 12, 13, .. of the day", "0 12 25 39 99", () -> y.ahead(0, 0), () -> y.ahead(1, 0), () -> y.ahead(2, 0),
                () -> y.ahead(3, 0), () -> y.ahead(99, 0));
        FernHeirs z = atHour900("heir 9 0;heir 9 0;", "4 + heir * 5");
        Due.row("gasps of before count, too", "1780 1782 1978", () -> z.ahead(0, 3), () -> z.ahead(1, 3), () -> z.ahead(99, 3));
        Due.work(z, "wipe 0;wipe 1;");
        Due.row("who clouded before, too", "3 1 3 1", () -> z.ahead(0, 1), () -> z.ahead(0, 2), () -> z.ahead(99, 1), () -> z.ahead(99, 2));
        Due.work(z, "dawn;");
        Due.row("of hours 905 and 912", "0 2 2 3 1 1", () -> z.ahead(5, 1), () -> z.ahead(6, 1), () -> z.ahead(12, 1), () -> z.ahead(13, 1),
                () -> z.ahead(6, 2), () -> z.ahead(99, 2));
        Due.row("clouds beyond 900", "13 6", () -> z.clouds(0), () -> z.clouds(1));
        Due.work(y, "dawn;");
        Due.row("hours asked do not stay", "900 0 1 0", () -> y.told(3), () -> y.ahead(3, 1), () -> y.ahead(4, 1), () -> y.told(11));
    }

    private static void clouds0To48() {
        FernHeirs x = Due.of("heir 1 1;heir 1 1;", "1 + heir * 2");
        hours(x, 1);
        Due.row("49 hours are too many", "-1", () -> x.clouds(0));
        hours(x, 1);
        Due.row("48 are not", "48 15", () -> x.clouds(0), () -> x.clouds(1));
        hours(x, 14);
        Due.row("a mist of 48", "48 1", () -> x.heir(1, 2), () -> x.clouds(1));
        hours(x, 1);
        Due.row("a mist of 51", "51 0", () -> x.heir(1, 2), () -> x.clouds(1));
        hours(x, 32);
        Due.row("a mist of 49", "49 1", () -> x.heir(0, 2), () -> x.clouds(0));
        hours(x, 1);
        Due.row("a mist of 50", "50 0", () -> x.heir(0, 2), () -> x.clouds(0));
        Due.work(x, "dawn;");
        Due.same("whoever clouded", x.clouds(0), 0);
        Due.work(x, "lift 0;");
        Due.same("the glass is off", x.clouds(0), -1);
        Due.work(x, "lower 0;");
        Due.same("no mist is on it", x.clouds(0), -1);
        Due.law(x, "0");
        Due.row("nothing comes out", "-1 0", () -> x.clouds(0), () -> x.clouds(1));
    }

    private static void wipes24() {
        FernHeirs x = Due.of("heir 1 1;", "1");
        hours(x, 25);
        Due.row("50 in 25 hours", "-1 25", () -> x.wipes(0), () -> x.clouds(0));
        hours(x, 1);
        Due.row("50 in 24 hours", "0 24", () -> x.wipes(0), () -> x.clouds(0));
        FernHeirs y = Due.of("heir 1 1;heir 1 1;", "1 + heir");
        Due.row("50 in 50 and 25 hours", "-1 -1", () -> y.wipes(0), () -> y.wipes(1));
        hours(y, 1);
        Due.row("50 in 49 and 24 hours", "-1 0", () -> y.wipes(0), () -> y.wipes(1));
        FernHeirs z = atHour900("heir 1 1;", "hour / 13");
        Due.work(z, "wipe 0;");
        Due.row("beyond 900: eleven hours of a day, then twelve", "-1", () -> z.wipes(0));
        Due.law(z, "hour");
        Due.row("12, 25, 39, 54", "0", () -> z.wipes(0));
    }

    private static void wipesOfWhom() {
        FernHeirs x = Due.of("heir 1 1;heir 1 1;heir 1 1;", "1");
        hours(x, 30);
        Due.row("all alike: whoever is less is wiped", "0 1 3", () -> x.wipes(0), () -> x.wipes(1), () -> x.wipes(2));
        Due.work(x, "lift 1;");
        Due.row("no glass that is off", "0 -1 1", () -> x.wipes(0), () -> x.wipes(1), () -> x.wipes(2));
        Due.work(x, "lower 1;");
        Due.row("nor who would not cloud", "0 -1 1", () -> x.wipes(0), () -> x.wipes(1), () -> x.wipes(2));
        FernHeirs y = Due.of("heir 1 1;heir 1 1;", "10");
        Due.work(y, "hour;");
        Due.row("wiped, the other one is an hour behind", "0 1", () -> y.wipes(0), () -> y.wipes(1));
        Due.work(y, "lift 1;lower 1;");
        Due.row("wiped, they are alike: still the less", "0 -1", () -> y.wipes(0), () -> y.wipes(1));
        FernHeirs v = Due.of("heir 1 1;heir 1 1;", "7");
        hours(v, 1);
        Due.row("wiped, no mist at all is on it: eight hours against seven", "0 1", () -> v.wipes(0), () -> v.wipes(1));
        FernHeirs z = Due.of(SEVEN, "25");
        hours(z, 1);
        Due.row("six others", "63 0 1 31", () -> z.wipes(6), () -> z.wipes(0), () -> z.wipes(1), () -> z.wipes(5));
        hours(z, 1);
        Due.row("who clouded ahead of the dawn", "127 63 0", () -> z.told(5), () -> z.wipes(6), () -> z.wipes(0));
        Due.same("asked, nobody is wiped", z.told(11), 350);
        FernHeirs w = Due.of("heir 1 1;heir 1 1;", "50 - mist / 2 - heir * 45");
        Due.work(w, "hour;");
        Due.row("wiped or not, the other is ahead", "0 -1", () -> w.wipes(0), () -> w.wipes(1));
    }

    /** Keepers cough in hours ahead, too. */
    private static void coughsAhead() {
        FernHeirs x = Due.of("heir 1 1;heir 1 1;keeper 0 1;keeper 0 2;keeper 1 24;", "10 - taps * 3");
        Due.row("mist", "11 28 42", () -> x.ahead(1, 0), () -> x.ahead(2, 0), () -> x.ahead(3, 0));
        Due.row("clouds", "10 6", () -> x.clouds(0), () -> x.clouds(1));
        Due.row("wipes: one alone would cloud in time, the other first", "-1 0", () -> x.wipes(0), () -> x.wipes(1));
        Due.work(x, "tap 0;hour;wipe 0;wipe 1;dawn;");
        Due.row("by taps of this hour no longer", "17 31", () -> x.ahead(1, 0), () -> x.ahead(2, 0));
        FernHeirs y = Due.of("heir 1 1;heir 1 1;hears 0 1;", "10 - taps * 3");
        Due.work(y, "tap 0;");
        Due.row("taps heard by now, in one hour alone", "17 37", () -> y.ahead(1, 0), () -> y.ahead(2, 0));
    }

    private static void gasp1To99() {
        FernHeirs x = Due.of("heir 1 0;heir 1 1;heir 9 0;heir 9 8;");
        Due.row("99, never, 11, 99", "99 -1 11 99", () -> x.gasp(0), () -> x.gasp(1), () -> x.gasp(2), () -> x.gasp(3));
        hours(x, 10);
        Due.row("89, never, 1", "89 -1 1", () -> x.gasp(0), () -> x.gasp(1), () -> x.gasp(2));
        hours(x, 1);
        Due.row("who gasped gasps in the next hour", "0 1 1", () -> x.heir(2, 3), () -> x.heir(2, 8), () -> x.gasp(2));
        Due.work(x, "fern 2 9;");
        Due.row("as many ferns as breath, without air", "1", () -> x.gasp(2));
        hours(x, 1);
        Due.row("with air, no more", "2 1 -1", () -> x.heir(2, 8), () -> Due.work(x, "air 2;"), () -> x.gasp(2));
        Due.work(x, "lift 0;");
        Due.same("the glass is off", x.gasp(0), -1);
        FernHeirs y = Due.of("heir 8 9;");
        Due.work(y, "fern 0 0;again 13[hour;];fern 0 9;");
        Due.row("air comes back ahead of the next hour's end", "0 1 -1", () -> y.heir(0, 3), () -> y.heir(0, 8), () -> y.gasp(0));
        FernHeirs z = atHour900("heir 9 9;", "1");
        Due.work(z, "fern 0 0;");
        Due.same("beyond 900", z.gasp(0), 11);
    }

    // ---- taps passed on ----

    private static void way() {
        FernHeirs x = Due.of(SEVEN + LINE);
        Due.row("one heir, a two, the longest", "0 0 1 6 6", () -> x.way(0, 0), () -> x.way(6, 6), () -> x.way(3, 2), () -> x.way(0, 6),
                () -> x.way(6, 0));
        FernHeirs y = Due.of(SEVEN + LINE + "hears 0 6;");
        Due.row("round the other way", "1 3 3", () -> y.way(0, 6), () -> y.way(0, 3), () -> y.way(0, 4));
        FernHeirs z = Due.of(SEVEN);
        Due.row("none", "0 -1 -1", () -> z.way(5, 5), () -> z.way(0, 1), () -> z.way(6, 5));
    }

    private static void hush() {
        FernHeirs x = Due.of(SEVEN + LINE);
        Due.row("a two, the least bits of one, one", "-1 -1 2 2 32", () -> x.hush(0, 1), () -> x.hush(6, 5), () -> x.hush(0, 6),
                () -> x.hush(2, 0),
                () -> x.hush(4, 6));
        FernHeirs y = Due.of(SEVEN);
        Due.row("no way", "0 0", () -> y.hush(0, 6), () -> y.hush(6, 0));
        FernHeirs z = Due.of(SEVEN + "hears 5 0;hears 5 1;hears 5 2;hears 5 3;hears 5 4;hears 6 0;hears 6 1;hears 6 2;hears 6 3;hears 6 4;");
        Due.row("all five others", "31 31", () -> z.hush(5, 6), () -> z.hush(6, 5));
        Due.row("two of them rather than three", "96 96", () -> z.hush(0, 4), () -> z.hush(3, 1));
        FernHeirs two = Due.of("heir 1 0;heir 1 0;");
        Due.row("two heirs", "0 0", () -> two.hush(0, 1), () -> two.hush(1, 0));
        Due.court(two, "heir 1 0;heir 1 0;hears 0 1;");
        Due.row("a two of two", "-1 -1", () -> two.hush(0, 1), () -> two.hush(1, 0));
        FernHeirs ring = Due.of("heir 1 0;".repeat(6) + "hears 0 1;hears 1 2;hears 2 3;hears 3 4;hears 4 5;hears 5 0;");
        Due.row("one on each side, the least bits", "18 5 10", () -> ring.hush(0, 3), () -> ring.hush(1, 3), () -> ring.hush(2, 0));
    }

    private static void still() {
        Due.row("no twos, one heir, two of a two", "127 1 1", () -> Due.of(SEVEN).still(), () -> Due.of("heir 1 0;").still(),
                () -> Due.of("heir 1 0;heir 1 0;hears 0 1;").still());
        Due.row("every other one of seven", "85", () -> Due.of(SEVEN + LINE).still());
        Due.row("of six", "21", () -> Due.of("heir 1 0;".repeat(6) + LINE.substring(0, 50)).still());
        Due.row("all but the one whom all hear", "126",
                () -> Due.of(SEVEN + "hears 0 1;hears 0 2;hears 0 3;hears 0 4;hears 0 5;hears 0 6;").still());
        Due.row("one of three, two of three", "1 6", () -> Due.of("heir 1 0;heir 1 0;heir 1 0;hears 0 1;hears 1 2;hears 0 2;").still(),
                () -> Due.of("heir 1 0;heir 1 0;heir 1 0;hears 2 0;hears 0 1;").still());
    }

    private static void seats() {
        FernHeirs x = Due.of(SEVEN);
        Due.row("seven heirs, no twos", "5040 0 6 -1 -1", x::seats, () -> x.seat(0), () -> x.seat(6), () -> x.seat(7),
                () -> x.seat(Integer.MAX_VALUE));
        FernHeirs y = Due.of(SEVEN + "hears 0 1;hears 0 2;hears 0 3;hears 0 4;hears 0 5;hears 0 6;");
        Due.row("one who sits beside nobody", "0 -1 -1 -1", y::seats, () -> y.seat(0), () -> y.seat(6), () -> y.seat(7));
        Due.row("a seat, asked first", "2", () -> Due.of("heir 1 0;heir 1 0;heir 1 0;hears 0 1;").seat(1));
        FernHeirs z = Due.of("heir 1 0;");
        Due.row("one heir", "1 0 -1", z::seats, () -> z.seat(0), () -> z.seat(1));
        FernHeirs w = Due.of("heir 1 0;heir 1 0;heir 1 0;heir 1 0;hears 0 1;hears 1 2;hears 2 3;");
        Due.row("two rows, the first by who sits first, then next", "2 1 3 0 2 -1", w::seats, () -> w.seat(0), () -> w.seat(1),
                () -> w.seat(2),
                () -> w.seat(3), () -> w.seat(4));
        FernHeirs v = Due.of("heir 1 0;heir 1 0;heir 1 0;hears 0 2;hears 1 2;");
        Due.row("no row of three", "0 -1", v::seats, () -> v.seat(0));
    }

    // ---- which child it was ----

    private static void fits() {
        FernHeirs x = Due.of("heir 5 5;");
        Due.row("no lines: all pairs", "90 10", () -> x.fits(0, 0), () -> x.fits(0, 1));
        Due.row("none", "1 0 -1", () -> Due.book(x, "1 1;"), () -> x.fits(0, 0), () -> x.fits(0, 1));
        Due.row("the least pair alone", "1 1 10", () -> Due.book(x, "1 2;"), () -> x.fits(0, 0), () -> x.fits(0, 1));
        Due.row("the most pair alone", "1 1 99", () -> Due.book(x, "1 27;"), () -> x.fits(0, 0), () -> x.fits(0, 1));
        Due.row("3: 1 and 1", "1 1 11", () -> Due.book(x, "1 3;"), () -> x.fits(0, 0), () -> x.fits(0, 1));
        Due.row("4: 1 and 2, or 2 and none; the first by breath", "1 2 12", () -> Due.book(x, "1 4;"), () -> x.fits(0, 0),
                () -> x.fits(0, 1));
        Due.law(x, "ferns / 9 * breath");
        Due.row("12 hours, 99 at most", "1 1 99", () -> Due.book(x, "12 99;"), () -> x.fits(0, 0), () -> x.fits(0, 1));
        Due.row("12 hours, 96", "1 1 89", () -> Due.book(x, "12 96;"), () -> x.fits(0, 0), () -> x.fits(0, 1));
        Due.row("12 hours, nothing", "1 81 10", () -> Due.book(x, "12 0;"), () -> x.fits(0, 0), () -> x.fits(0, 1));
        Due.row("six lines", "6 1 29", () -> Due.book(x, "12 24;11 22;10 20;1 2;2 4;3 6;"), () -> x.fits(0, 0), () -> x.fits(0, 1));
        Due.row("one of six is not right", "6 0 -1", () -> Due.book(x, "12 24;11 22;10 20;1 2;2 4;3 7;"), () -> x.fits(0, 0),
                () -> x.fits(0, 1));
    }

    private static void fitsFromNowOn() {
        FernHeirs x = Due.of("heir 9 0;heir 1 1;hears 0 1;keeper 0 1;", "mist + cracks + taps + (99 - air) + 1");
        Due.work(x, "again 9[hour;];crack 0;crack 0;tap 1;tap 1;");
        Due.row("asked ahead, as it stands", "2 2 90", () -> x.heir(0, 4), () -> x.heir(0, 5), () -> x.ahead(0, 0) - x.heir(1, 2) - 9);
        Due.book(x, "1 1;2 3;");
        // Wiped, air 99, no cracks, no taps: 1 in the first hour, 1 more than the mist while the air is 99.
        Due.row("a fresh glass", "45 11 45", () -> x.fits(0, 0), () -> x.fits(0, 1), () -> x.fits(1, 0));
        Due.law(x, "taps + 1");
        Due.row("no taps, whatever is heard by now", "2 198 2 90 10", () -> x.heir(0, 5), () -> x.ahead(0, 0),
                () -> Due.book(x, "1 1;2 2;"), () -> x.fits(0, 0), () -> x.fits(0, 1));
        Due.law(x, "mist + cracks + taps + (99 - air) + 1");
        Due.book(x, "1 1;2 3;");
        Due.work(x, "lift 0;");
        Due.same("the glass stood, though it is off", x.fits(0, 0), 45);
        Due.same("asked, it is off", x.heir(0, 6), 0);
        Due.law(x, "sun * ferns + breath * 0");
        Due.row("the sun shines in within 12 hours, or not", "1 90 10", () -> Due.book(x, "3 0;"), () -> x.fits(0, 0), () -> x.fits(0, 1));
        Due.row("hour 12 is the fourth from 9 on", "1 9 19", () -> Due.book(x, "4 9;"), () -> x.fits(0, 0), () -> x.fits(0, 1));
        FernHeirs y = atHour900("heir 9 0;", "sun * ferns");
        Due.row("beyond 900", "1 9 17", () -> Due.book(y, "1 7;"), () -> y.fits(0, 0), () -> y.fits(0, 1));
    }

    private static void look() {
        FernHeirs x = Due.of("heir 5 5;", "1");
        Due.row("all alike: the first hour", "1 90", () -> x.look(0, 0), () -> x.look(0, 1));
        Due.book(x, "1 1;2 2;3 3;4 4;5 5;6 6;");
        Due.row("the first in no line", "7 90", () -> x.look(0, 0), () -> x.look(0, 1));
        Due.book(x, "12 12;1 1;");
        Due.row("between", "2 90", () -> x.look(0, 0), () -> x.look(0, 1));
        Due.book(x, "1 9;");
        Due.row("none is left", "2 0", () -> x.look(0, 0), () -> x.look(0, 1));
        Due.law(x, "(hour / 11) * breath");
        Due.book(x, "");
        Due.row("hour 11 is the twelfth", "12 10", () -> x.look(0, 0), () -> x.look(0, 1));
        Due.book(x, "12 9;");
        Due.row("told, it is out", "1 10", () -> x.look(0, 0), () -> x.look(0, 1));
        Due.law(x, "breath * 2 + ferns / 9");
        Due.book(x, "");
        Due.row("at the worst, not in the mean", "1 9", () -> x.look(0, 0), () -> x.look(0, 1));
        Due.book(x, "1 19;");
        Due.row("one is left", "2 1", () -> x.look(0, 0), () -> x.look(0, 1));
    }

    // ---- sums ----

    private static void lots() {
        FernHeirs x = new FernHeirs();
        int[][] due = {{1, 0, 0, 0, 1}, {1, 0, 1, 0, 1}, {1, 1, 0, 0, 1}, {1, 1, 1, 1, 1}, {20, 0, 20, 0, 1}, {20, 20, 0, 0, 1}, {20, 20, 20, 1, 1},
            {20, 1, 1, 1, 20}, {20, 1, 19, 19, 20}, {20, 19, 1, 19, 20}, {20, 19, 2, 1, 1}, {20, 10, 10, 184755, 184756}, {20, 10, 11, 1, 1},
            {20, 11, 9, 167959, 167960}, {20, 2, 9, 27, 38}, {4, 2, 2, 5, 6}};
        for (int[] d : due) {
            Due.row("lots " + d[0] + " " + d[1] + " " + d[2], d[3] + " " + d[4], () -> x.lots(d[0], d[1], d[2], 0),
                    () -> x.lots(d[0], d[1], d[2], 1));
        }
    }

    private static void regents() {
        FernHeirs x = new FernHeirs();
        int[][] due = {{0, 0, 2}, {0, 1, 1}, {1, 0, 2}, {50, 50, 2}, {50, 51, 1}, {51, 50, 2}, {99, 99, 2}, {98, 99, 1}, {0, 99, 1}, {99, 0, 2}};
        for (int[] d : due) {
            Due.row("regents " + d[0] + " " + d[1], d[2] + " 0 0", () -> x.regents(d[0], d[1], 0), () -> x.regents(d[0], d[1], 1),
                    () -> x.regents(d[0], d[1], 2));
        }
    }

    private static void moss() {
        FernHeirs x = Due.of("heir 1 0;heir 9 0;heir 5 0;");
        Due.row("none to give", "0 0 0", () -> x.moss(0, 7, 0), () -> x.moss(1, 7, 0), () -> x.moss(2, 7, 0));
        Due.row("too few for a bound of 1", "0 0 0", () -> x.moss(0, 7, 2), () -> x.moss(1, 7, 2), () -> x.moss(2, 7, 2));
        Due.row("a bound of 1", "1 1 1", () -> x.moss(0, 7, 3), () -> x.moss(1, 7, 4), () -> x.moss(2, 7, 3));
        Due.row("a bound of 2", "1 2 2", () -> x.moss(0, 7, 5), () -> x.moss(1, 7, 5), () -> x.moss(2, 7, 6));
        Due.row("one less than all", "1 8 5", () -> x.moss(0, 7, 14), () -> x.moss(1, 7, 14), () -> x.moss(2, 7, 14));
        Due.row("all, just so", "1 9 5", () -> x.moss(0, 7, 15), () -> x.moss(1, 7, 15), () -> x.moss(2, 7, 15));
        Due.row("more than all", "1 9 5", () -> x.moss(0, 7, 99), () -> x.moss(1, 7, 16), () -> x.moss(2, 7, 99));
        Due.row("one of them alone", "9 8 0 4", () -> x.moss(1, 2, 9), () -> x.moss(1, 2, 8), () -> x.moss(1, 2, 0), () -> x.moss(2, 4, 4));
        Due.row("who is none of them", "0 0 0", () -> x.moss(0, 6, 99), () -> x.moss(1, 5, 99), () -> x.moss(2, 3, 99));
        FernHeirs seven = Due.of("heir 9 0;".repeat(7));
        Due.row("seven", "9 8 0 1", () -> seven.moss(6, 127, 63), () -> seven.moss(6, 127, 62), () -> seven.moss(0, 127, 6),
                () -> seven.moss(0, 127, 7));
        Due.wrongArgument("an eighth bit", () -> seven.moss(0, 128, 9));
        Due.wrongArgument("the bits of seven and an eighth", () -> seven.moss(0, 255, 9));
        Due.wrongArgument("a bit behind three", () -> x.moss(0, 8, 9));
    }

    private static void backward() {
        FernHeirs x = new FernHeirs();
        int[] due = {0, 0, 1, 1, 9, 9, 10, 1, 90, 9, 100, 1, 12, 21, 120, 21, 10203, 30201, 10000000, 1, 99999999, 99999999, 90000000, 9,
            10000009, 90000001, 98765432, 23456789};
        for (int i = 0; i < due.length; i += 2) {
            Due.same("backward " + due[i], x.backward(due[i]), due[i + 1]);
        }
    }

    // ---- how it stands ----

    private static void greenestAndStalest() {
        FernHeirs x = Due.of(SEVEN, "heir / 6");
        Due.row("no mist, all air", "-1 -1 0 99", () -> x.greenest(0), () -> x.greenest(1), () -> x.stalest(0), () -> x.stalest(1));
        hours(x, 1);
        Due.row("a mist of 1, an air of 98", "6 1 0 98", () -> x.greenest(0), () -> x.greenest(1), () -> x.stalest(0), () -> x.stalest(1));
        Due.work(x, "wipe 6;air 0;");
        Due.row("none again, the second", "-1 -1 1 98", () -> x.greenest(0), () -> x.greenest(1), () -> x.stalest(0), () -> x.stalest(1));
        FernHeirs y = Due.of("heir 1 0;heir 9 0;heir 9 0;", "40");
        hours(y, 11);
        Due.row("99 and 0, of alike ones the first", "0 99 1 0", () -> y.greenest(0), () -> y.greenest(1), () -> y.stalest(0),
                () -> y.stalest(1));
        Due.work(y, "lift 0;lift 1;");
        Due.row("glasses that are off have no mist, and air", "2 99 2 0", () -> y.greenest(0), () -> y.greenest(1), () -> y.stalest(0),
                () -> y.stalest(1));
        Due.work(y, "lower 0;hour;");
        Due.row("others of more air behind", "2 99 2 0", () -> y.greenest(0), () -> y.greenest(1), () -> y.stalest(0), () -> y.stalest(1));
        Due.work(y, "air 2;air 2;air 2;");
        Due.row("the first, another of more air behind", "0 98", () -> y.stalest(0), () -> y.stalest(1));
        Due.work(y, "lift 0;lift 2;");
        Due.row("all off", "-1 -1 0 99", () -> y.greenest(0), () -> y.greenest(1), () -> y.stalest(0), () -> y.stalest(1));
    }

    private static void ear() {
        FernHeirs x = Due.of(SEVEN + LINE.substring(0, 30));
        Due.row("the own one, passed on or not", "15 15 16 64", () -> x.ear(0), () -> x.ear(3), () -> x.ear(4), () -> x.ear(6));
        FernHeirs y = Due.of(SEVEN + LINE);
        Due.row("six taps away", "127 127", () -> y.ear(0), () -> y.ear(6));
        Due.work(y, "lift 3;");
        Due.row("whether glasses stand or not", "127 127 6", () -> y.ear(0), () -> y.ear(3), () -> y.way(0, 6));
    }

    private static void coughs() {
        FernHeirs x = Due.of("heir 1 1;heir 1 1;keeper 0 1;keeper 0 1;keeper 1 24;");
        Due.row("no hours, this one, 99", "0 2 198 0 1 1 2 5", () -> x.coughs(0, 0), () -> x.coughs(0, 1), () -> x.coughs(0, 99),
                () -> x.coughs(1, 0),
                () -> x.coughs(1, 1), () -> x.coughs(1, 24), () -> x.coughs(1, 25), () -> x.coughs(1, 99));
        Due.work(x, "hour;lift 0;lift 1;");
        Due.row("from hour 1 on, the glasses off", "2 0 0 1", () -> x.coughs(0, 1), () -> x.coughs(1, 1), () -> x.coughs(1, 23),
                () -> x.coughs(1, 24));
        FernHeirs y = atHour900("heir 1 1;keeper 0 24;", "1");
        Due.row("beyond 900", "0 1 4", () -> y.coughs(0, 12), () -> y.coughs(0, 13), () -> y.coughs(0, 99));
    }

    private static void twins() {
        FernHeirs x = Due.of(SEVEN);
        Due.row("seven alike", "21 1", () -> x.twins(0), () -> x.twins(1));
        Due.work(x, "fern 0 1;fern 1 2;fern 2 3;fern 3 4;fern 4 5;");
        Due.row("the last two", "1 56", () -> x.twins(0), () -> x.twins(1));
        Due.work(x, "fern 5 1;");
        Due.row("the first and the sixth", "1 5", () -> x.twins(0), () -> x.twins(1));
        Due.work(x, "fern 5 9;");
        Due.row("none", "0 -1", () -> x.twins(0), () -> x.twins(1));
        FernHeirs off = Due.of("heir 3 1;heir 3 2;heir 3 1;");
        Due.work(off, "lift 0;lift 2;");
        Due.row("glasses do not matter", "1 2", () -> off.twins(0), () -> off.twins(1));
        FernHeirs y = Due.of("heir 1 2;heir 2 1;heir 1 1;heir 2 2;");
        Due.row("breath or ferns alone", "0 -1", () -> y.twins(0), () -> y.twins(1));
    }

    private static void sunny() {
        FernHeirs x = Due.of("sun 0;");
        Due.same("in this one", x.sunny(), 0);
        hours(x, 1);
        Due.same("just behind", x.sunny(), 23);
        hours(x, 22);
        Due.same("just ahead", x.sunny(), 1);
        hours(x, 1);
        Due.same("a day later", x.sunny(), 0);
        Due.row("23 hours to go", "0 23", () -> Due.court(x, "sun 23;"), x::sunny);
        FernHeirs y = atHour900("sun 11;", "1");
        Due.same("beyond 900", y.sunny(), 23);
    }

    private static void gossip() {
        FernHeirs x = Due.of(SEVEN);
        Due.row("no twos", "-1 -1", () -> x.gossip(0), () -> x.gossip(1));
        FernHeirs y = Due.of(SEVEN + "hears 6 5;");
        Due.row("one", "5 1", () -> y.gossip(0), () -> y.gossip(1));
        FernHeirs z = Due.of(SEVEN + "hears 6 0;hears 6 1;hears 6 2;hears 6 3;hears 6 4;hears 6 5;");
        Due.row("six", "6 6", () -> z.gossip(0), () -> z.gossip(1));
        FernHeirs first = Due.of(SEVEN + "hears 6 0;hears 5 0;hears 6 5;hears 0 3;");
        Due.row("the first heir", "0 3", () -> first.gossip(0), () -> first.gossip(1));
        FernHeirs w = Due.of(SEVEN + LINE);
        Due.row("of alike ones the first", "1 2", () -> w.gossip(0), () -> w.gossip(1));
    }

    // ---- years ----

    /** From seed 1 on one heir lifts, taps, changes air, lowers, wipes (as in YearsTest). */
    private static void years() {
        FernHeirs x = Due.of("heir 9 0;", "hour + 1");
        Due.row("one hour, and more", "0 0 0 4 5", () -> x.year(1, 1, 0), () -> x.year(1, 2, 0), () -> x.year(1, 3, 0),
                () -> x.year(1, 4, 0),
                () -> x.year(1, 5, 0));
        Due.row("stands", "0 0 0 1 1", () -> x.year(1, 1, 3), () -> x.year(1, 2, 3), () -> x.year(1, 3, 3), () -> x.year(1, 4, 3),
                () -> x.year(1, 5, 3));
        Due.row("bits 0 to 30 of a seed are all that counts", "1 1 1 1", () -> same(x, 1, Integer.MIN_VALUE + 1),
                () -> same(x, -1, Integer.MAX_VALUE),
                () -> same(x, 0, Integer.MIN_VALUE), () -> same(x, -7, Integer.MAX_VALUE - 6));
        int[] seeds = {0, 1, -1, 77, Integer.MAX_VALUE, Integer.MIN_VALUE};
        for (int seed : seeds) {
            FernHeirs y = Due.of("heir 9 4;heir 6 0;heir 9 0;hears 0 1;hears 0 2;keeper 1 2;sun 3;");
            Due.work(y, "crack 1;hour;hour;");
            int[] then = new int[4];
            for (int what = 0; what < 4; what++) {
                then[what] = y.year(seed, 96, what);
            }
            int before = y.told(8);
            Due.yearAsWorks(y, seed, 96);
            Due.row("96 hours of seed " + seed, then[0] + " " + then[1] + " " + then[2] + " " + then[3], () -> y.told(11), () -> y.told(6),
                    () -> y.told(8) - before, () -> y.told(4));
        }
    }

    private static int same(FernHeirs x, int one, int other) {
        for (int what = 0; what < 4; what++) {
            if (x.year(one, 96, what) != x.year(other, 96, what)) {
                return 0;
            }
        }
        return 1;
    }

    private static void yearsBeyond900() {
        FernHeirs x = atHour900("heir 9 9;", "hour * 2");
        Due.work(x, "wipe 0;dawn;");
        Due.row("hour 903 is 15 of the day", "0 30 32", () -> x.year(1, 3, 0), () -> x.year(1, 4, 0), () -> x.year(1, 5, 0));
        Due.row("as many hours as asked", "900 -1 1", () -> x.told(3), () -> x.year(1, 4, 1), () -> x.year(1, 4, 3));
        FernHeirs y = atHour900("heir 9 0;", "1");
        // Seed 4 begins with four wipes, seed 2 with air, then a lower and two taps.
        Due.row("gasps, those ahead not counted", "890 1 4 0", () -> y.told(8), () -> y.year(4, 1, 2), () -> y.year(4, 4, 2),
                () -> y.year(2, 4, 2));
    }

    private static void spans() {
        FernHeirs x = Due.of("heir 9 0;heir 8 0;heir 9 1;");
        hours(x, 12);
        Due.row("gasps by now, the elder by now", "2 0", () -> x.told(8), () -> x.told(6));
        Due.row("a span of one seed", "1 1", () -> x.span(5, 1, 96, 0) == x.year(5, 96, 2) ? 1 : 0,
                () -> x.span(5, 1, 96, 1) == x.year(5, 96, 2) ? 1 : 0);
        Due.row("an hour each, elders of before count", "20 1", () -> x.span(5, 20, 1, 2), () -> x.span(5, 1, 1, 2));
        Due.work(x, "dawn;wipe 0;wipe 1;wipe 2;");
        Due.row("no elder in an hour", "0 0", () -> x.span(5, 20, 1, 2), () -> x.span(5, 1, 1, 2));
        FernHeirs y = Due.of("heir 9 9;", "40");
        // Seed 4 begins with four wipes, seed 6 with a tap, a wipe and two taps.
        Due.row("an elder who is the only one, or none", "0 0 1", () -> y.span(4, 1, 4, 2), () -> y.span(6, 1, 2, 2),
                () -> y.span(6, 1, 3, 2));
        int[] firsts = {5, Integer.MAX_VALUE - 9, -10};
        for (int first : firsts) {
            int fewest = 9999;
            int most = -1;
            int elders = 0;
            for (int seed = first; seed != first + 20; seed++) {
                fewest = Math.min(fewest, x.year(seed, 96, 2));
                most = Math.max(most, x.year(seed, 96, 2));
                elders += x.year(seed, 96, 1) < 0 ? 0 : 1;
            }
            Due.row("a span of twenty from " + first, fewest + " " + most + " " + elders, () -> x.span(first, 20, 96, 0),
                    () -> x.span(first, 20, 96, 1),
                    () -> x.span(first, 20, 96, 2));
        }
    }
}
