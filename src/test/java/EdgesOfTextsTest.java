/** The edges that the document names of texts, each on its own: "Terms", and promises 1 to 7. */
public final class EdgesOfTextsTest {
    private static final String SEVEN = "heir 1 0;".repeat(7);
    private static final String SIX_KEEPERS = "keeper 0 1;".repeat(6);

    public static void main(String[] args) {
        tapeOf600();
        tapeStays();
        bytesOfTheTape();
        bytesOfATextEach();
        textsOfAllTheirBytes();
        sixtyClauses();
        heirs();
        twos();
        keepers();
        sun();
        numbersOfALaw();
        sevenOpenInALaw();
        numbersOfAWork();
        sevenAgains();
        linesOfABook();
        digitsAsManyAsStandThere();
        lettersAsManyAsStandThere();
        signsOneByOne();
        blanks();
        endsTooEarly();
        firstFromTheLeft();
        leastOfOnePlace();
        latestText();
        allButTheTapeStays();
        courtAnew();
        lawInTheOtherOnesPlace();
        Due.end();
    }

    private static String twelveTwos() {
        StringBuilder all = new StringBuilder();
        for (int c = 1; c < 7; c++) {
            all.append("hears 0 ").append(c).append(';').append("hears ").append(c).append(' ').append(c % 6 + 1).append(';');
        }
        return all.toString();
    }

    // ---- promise 2: the tape ----

    private static void tapeOf600() {
        FernHeirs x = new FernHeirs();
        String text = " ".repeat(571) + "sun 23;" + " ".repeat(13) + "heir 3 4;";
        for (int fed = 0; fed < 600; fed += 20) {
            Due.feed(x, text.substring(fed, fed + 20));
            Due.same("bytes behind feed", x.count(1), fed + 20);
        }
        Due.same("the tape is full", x.feed(-1, -1, -1, -1, -1), FernHeirs.NONE);
        Due.same("once more", x.feed(0x20202020, 0x20202020, 0x20202020, 0x20202020, 0x20202020), FernHeirs.NONE);
        Due.row("nothing is done then", "600 0 0", () -> x.count(1), () -> x.status(0), () -> x.status(1));
        Due.row("all 600 bytes are as they were", "1 -1 3 4 23", () -> x.court(600), x::fault, () -> x.heir(0, 0), () -> x.heir(0, 1),
                () -> x.told(7));
        Due.row("an empty tape takes bytes again", "0 20", () -> x.count(1), () -> x.feed(0, 0, 0, 0, 0));
        FernHeirs y = new FernHeirs();
        Due.feed(y, " ".repeat(580));
        Due.row("580 and 20 are 600", "600 -1", () -> y.feed(0, 0, 0, 0, 0), () -> y.feed(0, 0, 0, 0, 0));
        FernHeirs z = new FernHeirs();
        Due.row("each number's highest byte is first", "20 1 9 8", () -> z.feed(0x68656972, 0x20392038, 0x3bff80ff, 0x80000000, 1),
                () -> z.court(9), () -> z.heir(0, 0), () -> z.heir(0, 1));
        Due.row("the fifth number's bytes", "20 1 7 6", () -> z.feed(0x20202020, 0x20202020, 0x20206865, 0x69722037, 0x2036203b),
                () -> z.court(20), () -> z.heir(0, 0), () -> z.heir(0, 1));
    }

    private static void tapeStays() {
        FernHeirs x = new FernHeirs();
        Due.feed(x, "heir 3 4;");
        int[] wrong = {-1, 21, 601, Integer.MIN_VALUE, Integer.MAX_VALUE};
        for (int n : wrong) {
            Due.wrongArgument("court " + n, () -> x.court(n));
            Due.wrongArgument("law " + n, () -> x.law(n));
            Due.wrongArgument("work " + n, () -> x.work(n));
            Due.wrongArgument("book " + n, () -> x.book(n));
        }
        Due.row("the tape stays", "20 -1 20 0", () -> x.count(1), x::fault, () -> x.status(1), () -> x.count(2));
        Due.row("with its bytes", "1 3 4 0", () -> x.court(9), () -> x.heir(0, 0), () -> x.heir(0, 1), () -> x.count(1));
        FernHeirs y = new FernHeirs();
        Due.feed(y, "1 + breath" + " ".repeat(150));
        Due.wrongArgument("law 151 of 160", () -> y.law(151));
        Due.wrongArgument("law 160 of 160", () -> y.law(160));
        Due.wrongArgument("work 151 of 160", () -> y.work(151));
        Due.wrongArgument("work 160 of 160", () -> y.work(160));
        Due.wrongArgument("book 61 of 160", () -> y.book(61));
        Due.wrongArgument("book 160 of 160", () -> y.book(160));
        Due.wrongArgument("court 161 of 160", () -> y.court(161));
        Due.row("the tape stays, law 150 of 160", "160 1 0 10", () -> y.count(1), () -> y.law(150), () -> y.count(1),
                () -> y.would(9, 0, 0, 0, 0, 0, 0, 0, 0));
    }

    private static void bytesOfTheTape() {
        FernHeirs x = new FernHeirs();
        Due.row("no bytes of an empty tape", "0 -9 0 0 0", () -> x.court(0), () -> x.law(0), x::fault, () -> x.work(0), () -> x.book(0));
        Due.wrongArgument("court 1 of an empty tape", () -> x.court(1));
        Due.wrongArgument("law 1 of an empty tape", () -> x.law(1));
        Due.wrongArgument("work 1 of an empty tape", () -> x.work(1));
        Due.wrongArgument("book 1 of an empty tape", () -> x.book(1));
        Due.feed(x, "heir 3 4;heir 2 2;??");
        Due.row("all 20 bytes", "-9 18", () -> x.court(20), x::fault);
        Due.feed(x, "heir 3 4;heir 2 2; ;");
        Due.row("19 of 20", "2 -1", () -> x.court(19), x::fault);
        String[] kinds = {"court", "law", "work", "book"};
        for (String kind : kinds) {
            Due.feed(x, "1 1;");
            Due.same("a text of no bytes: " + kind, kind.equals("court") ? x.court(0) : kind.equals("law") ? x.law(0)
                    : kind.equals("work") ? x.work(0) : x.book(0), kind.equals("law") ? -9 : 0);
            Due.same("empties the tape: " + kind, x.count(1), 0);
        }
    }

    private static void bytesOfATextEach() {
        FernHeirs x = new FernHeirs();
        String long160 = "7" + " ".repeat(159);
        Due.feed(x, long160);
        Due.same("a law to 150", x.law(150), 1);
        Due.feed(x, "hour;" + " ".repeat(155));
        Due.same("a work to 150", x.work(150), 1);
        Due.feed(x, "1 1;" + " ".repeat(76));
        Due.same("a book to 60", x.book(60), 1);
        Due.feed(x, "1 1;" + " ".repeat(75) + "1 1;");
        Due.wrongArgument("a book of 61", () -> x.book(61));
        Due.same("a book of 60 of them", x.book(60), 1);
        Due.feed(x, "1 1;");
        Due.row("a book of 0", "0 0", () -> x.book(0), () -> x.told(9));
    }

    private static void textsOfAllTheirBytes() {
        String court = "sun     5;".repeat(59) + " sun   19;";
        FernHeirs x = new FernHeirs();
        Due.row("a court of 600 bytes", "0 -1 19", () -> Due.court(x, court), x::fault, () -> x.told(7));
        Due.feed(x, court);
        Due.row("of 599", "-9 599 19", () -> x.court(599), x::fault, () -> x.told(7));
        Due.row("a law of 150 bytes", "1 -1 7", () -> Due.law(x, "0+".repeat(74) + "07"), x::fault,
                () -> x.would(1, 0, 0, 0, 0, 0, 0, 0, 0));
        Due.row("of products", "1 9", () -> Due.law(x, "1*".repeat(74) + "09"), () -> x.would(1, 0, 0, 0, 0, 0, 0, 0, 0));
        Due.row("of one number", "1 8", () -> Due.law(x, "0".repeat(149) + "8"), () -> x.would(1, 0, 0, 0, 0, 0, 0, 0, 0));
        Due.feed(x, "0+".repeat(75));
        Due.row("of 149", "1 0", () -> x.law(149), () -> x.would(1, 0, 0, 0, 0, 0, 0, 0, 0));
        Due.row("of 150 that end too early", "-9 150", () -> Due.law(x, "0+".repeat(75)), x::fault);
        Due.row("a work of 150 bytes", "30 -1 30", () -> Due.work(x, "hour;".repeat(30)), x::fault, () -> x.told(3));
        Due.feed(x, "hour;".repeat(30));
        Due.row("of 149", "-9 149 30", () -> x.work(149), x::fault, () -> x.told(3));
        Due.row("of many empty agains", "0", () -> Due.work(x, "again 1[];".repeat(15)));
        String book = "  1     7;  2     7;  3     7;  4     7;  5     7; 12    99;";
        Due.row("a book of 60 bytes", "6 -1 6", () -> Due.book(x, book), x::fault, () -> x.told(9));
        Due.feed(x, book);
        Due.row("of 59", "-9 59 6", () -> x.book(59), x::fault, () -> x.told(9));
    }

    // ---- terms: a court ----

    private static void sixtyClauses() {
        String full = SEVEN + twelveTwos() + SIX_KEEPERS;
        FernHeirs x = new FernHeirs();
        String sixty = full + "sun 1;".repeat(34) + "sun 9;";
        Due.row("sixty clauses, all lists full", "7 -1 7 12 6 9", () -> Due.court(x, sixty), x::fault, () -> x.told(0), () -> x.told(1),
                () -> x.told(2), () -> x.told(7));
        int end = sixty.length();
        Due.fault("court", sixty + "sun 1;", -7, end);
        Due.fault("court", sixty + "  sun", -7, end + 2);
        Due.fault("court", sixty + "heir 1 0;", -7, end);
        Due.fault("court", sixty + "hears 0 1;", -7, end);
        Due.fault("court", sixty + "keeper 0 1;", -7, end);
        Due.fault("court", sixty + ";", -9, end);
        String suns = "sun 1;".repeat(60);
        Due.fault("court", suns + "heir 1 0;", -7, 360);
        Due.fault("court", suns + "hears 0 1;", -7, 360);
        Due.fault("court", suns + "keeper 0 1;", -7, 360);
        Due.fault("court", suns + "sun 1;", -7, 360);
        Due.row("sixty and blanks", "0 -1", () -> Due.court(x, suns + "    "), x::fault);
        Due.row("none", "0 -1 0", () -> Due.court(x, ""), x::fault, () -> x.told(0));
    }

    private static void heirs() {
        FernHeirs x = new FernHeirs();
        Due.row("least and most of an heir", "4 1 0 1 9 9 0 9 9", () -> Due.court(x, "heir 1 0;heir 1 9;heir 9 0;heir 9 9;"),
                () -> x.heir(0, 0), () -> x.heir(0, 1), () -> x.heir(1, 0), () -> x.heir(1, 1), () -> x.heir(2, 0), () -> x.heir(2, 1),
                () -> x.heir(3, 0), () -> x.heir(3, 1));
        Due.fault("court", "heir 0 0;", -8, 5);
        Due.fault("court", "heir 10 0;", -8, 5);
        Due.fault("court", "heir 1 10;", -8, 7);
        Due.row("seven", "7 7 127", () -> Due.court(x, SEVEN), () -> x.told(0), () -> x.told(4));
        Due.fault("court", SEVEN + "heir 1 0;", -7, 63);
        Due.fault("court", SEVEN + "heir 0 0;", -7, 63);
        Due.row("numbered from 0 on", "3 3 5 8", () -> Due.court(x, "heir 3 1;heir 5 1;heir 8 1;"), () -> x.heir(0, 0), () -> x.heir(1, 0),
                () -> x.heir(2, 0));
        Due.noSuch("and none behind", () -> x.heir(3, 0));
    }

    private static void twos() {
        Due.fault("court", "hears 0 1;heir 1 0;heir 1 0;", -8, 6);
        Due.fault("court", "heir 1 0;hears 1 0;heir 1 0;", -8, 15);
        Due.fault("court", "heir 1 0;hears 0 1;heir 1 0;", -8, 17);
        Due.fault("court", "heir 1 0;heir 1 0;hears 0 2;", -8, 26);
        Due.fault("court", "heir 1 0;heir 1 0;hears 2 0;", -8, 24);
        Due.fault("court", "heir 1 0;hears 0 0;", -8, 17);
        Due.fault("court", "heir 1 0;heir 1 0;hears 1  01;", -8, 27);
        Due.fault("court", "heir 1 0;heir 1 0;hears 0 1;hears 0 1;", -8, 36);
        Due.fault("court", "heir 1 0;heir 1 0;hears 0 1;hears 1 0;", -8, 36);
        Due.fault("court", "heir 1 0;heir 1 0;hears 1 0;hears 0 1;", -8, 36);
        FernHeirs x = new FernHeirs();
        Due.row("told just ahead", "2 1 0 1", () -> Due.court(x, "heir 1 0;heir 1 0;hears 1 0;"), () -> x.two(0, 0), () -> x.two(0, 1),
                () -> x.told(1));
        Due.row("each hears the other", "2 1", () -> x.heir(0, 9), () -> x.heir(1, 9));
        Due.row("twelve", "7 12 6 1", () -> Due.court(x, SEVEN + twelveTwos()), () -> x.told(1), () -> x.two(11, 0), () -> x.two(11, 1));
        Due.noSuch("no thirteenth", () -> x.two(12, 0));
        int end = (SEVEN + twelveTwos()).length();
        Due.fault("court", SEVEN + twelveTwos() + "hears 1 3;", -7, end);
        Due.fault("court", SEVEN + twelveTwos() + "hears 0 0;", -7, end);
    }

    private static void keepers() {
        FernHeirs x = new FernHeirs();
        Due.row("least and most hours", "2 0 1 1 24", () -> Due.court(x, "heir 1 0;heir 1 0;keeper 0 1;keeper 1 24;"), () -> x.keeper(0, 0),
                () -> x.keeper(0, 1), () -> x.keeper(1, 0), () -> x.keeper(1, 1));
        Due.fault("court", "heir 1 0;keeper 0 0;", -8, 18);
        Due.fault("court", "heir 1 0;keeper 0 25;", -8, 18);
        Due.fault("court", "keeper 0 1;heir 1 0;", -8, 7);
        Due.fault("court", "heir 1 0;keeper 1 1;heir 1 0;", -8, 16);
        Due.row("six", "1 6", () -> Due.court(x, "heir 1 0;" + SIX_KEEPERS), () -> x.told(2));
        Due.noSuch("no seventh", () -> x.keeper(6, 0));
        Due.fault("court", "heir 1 0;" + SIX_KEEPERS + "keeper 0 1;", -7, 75);
        Due.fault("court", "heir 1 0;" + SIX_KEEPERS + "keeper 1 0;", -7, 75);
    }

    private static void sun() {
        FernHeirs x = new FernHeirs();
        Due.row("12 without", "0 12", () -> Due.court(x, ""), () -> x.told(7));
        Due.row("the first hour", "0 0", () -> Due.court(x, "sun 0;"), () -> x.told(7));
        Due.row("the last hour", "0 23", () -> Due.court(x, "sun 23;"), () -> x.told(7));
        Due.fault("court", "sun 24;", -8, 4);
        Due.row("the last counts", "0 4", () -> Due.court(x, "sun 7;sun 23;sun 4;"), () -> x.told(7));
        Due.row("12 again, without", "1 12", () -> Due.court(x, "heir 1 1;"), () -> x.told(7));
    }

    // ---- terms: a law, a work, a book ----

    private static void numbersOfALaw() {
        FernHeirs x = Due.of("heir 1 0;");
        Due.row("999", "1 39", () -> Due.law(x, "999 - 960"), () -> x.cloud(0));
        Due.fault("law", "1000", -8, 0);
        Due.fault("law", "7 - 1000", -8, 4);
        Due.row("0", "1 5", () -> Due.law(x, "5 + 0"), () -> x.cloud(0));
        Due.row("not more than 40", "1 40", () -> Due.law(x, "41"), () -> x.cloud(0));
        Due.row("40", "1 40", () -> Due.law(x, "40"), () -> x.cloud(0));
        Due.row("not less than 0", "1 0", () -> Due.law(x, "0 - 1"), () -> x.cloud(0));
        Due.row("not more than 40 in all only", "1 3", () -> Due.law(x, "999 * 9 - 999 * 8 - 996"), () -> x.cloud(0));
        String most = "(32 * 32 * 32 * 64 * 32 * 32 - 1)";
        Due.row("2,147,483,647", "1 40 1 7", () -> Due.law(x, most), () -> x.cloud(0), () -> Due.law(x, most + " % 10"), () -> x.cloud(0));
        Due.row("wraps to less than 0", "1 0 1 8", () -> Due.law(x, most + " + 1"), () -> x.cloud(0),
                () -> Due.law(x, "0 - (" + most + " + 1) % 10"), () -> x.cloud(0));
        Due.row("wraps to more than 0", "1 40 1 7", () -> Due.law(x, "0 - " + most + " - 2"), () -> x.cloud(0),
                () -> Due.law(x, "(0 - " + most + " - 2) % 10"), () -> x.cloud(0));
        Due.row("products wrap", "1 6", () -> Due.law(x, most + " * " + most + " + 5"), () -> x.cloud(0));
        Due.row("the least number by 0 less 1", "1 8 1 3", () -> Due.law(x, "0 - (" + most + " + 1) / (0 - 1) % 10"), () -> x.cloud(0),
                () -> Due.law(x, "3 + (" + most + " + 1) % (0 - 1)"), () -> x.cloud(0));
        Due.row("least and most, either way", "1 4 1 4 1 9 1 9", () -> Due.law(x, "least[9,4]"), () -> x.cloud(0),
                () -> Due.law(x, "least[4,9]"),
                () -> x.cloud(0), () -> Due.law(x, "most[9,4]"), () -> x.cloud(0), () -> Due.law(x, "most[4,9]"), () -> x.cloud(0));
        Due.row("by 0 both are 0", "1 4 1 4 1 4", () -> Due.law(x, "4 + 9 / 0"), () -> x.cloud(0), () -> Due.law(x, "4 + 9 % 0"),
                () -> x.cloud(0),
                () -> Due.law(x, "4 + 9 / (taps - taps)"), () -> x.cloud(0));
        Due.row("/ cuts", "1 2 1 18", () -> Due.law(x, "8 / 3"), () -> x.cloud(0), () -> Due.law(x, "20 + (0 - 8) / 3"), () -> x.cloud(0));
        Due.row("% has the sign of what is divided", "1 18 1 22", () -> Due.law(x, "20 + (0 - 8) % 3"), () -> x.cloud(0),
                () -> Due.law(x, "20 + 8 % (0 - 3)"), () -> x.cloud(0));
    }

    private static void sevenOpenInALaw() {
        String[] opens = {"(", "least[", "most["};
        String[] closes = {")", ",9]", ",0]"};
        for (int six = 0; six < 3; six++) {
            String open = opens[six].repeat(6);
            FernHeirs x = Due.of("heir 1 0;");
            String inSix = open + "5" + closes[six].repeat(6);
            Due.row("six open: " + opens[six], "1 5", () -> Due.law(x, inSix), () -> x.cloud(0));
            Due.row("twice, one behind the other", "1 10", () -> Due.law(x, inSix + " + " + inSix), () -> x.cloud(0));
            for (String seventh : opens) {
                Due.fault("law", open + seventh + "5", -7, open.length());
                Due.fault("law", open + " " + seventh, -7, open.length() + 1);
            }
        }
        FernHeirs y = Due.of("heir 1 0;");
        Due.row("six of all kinds", "1 6", () -> Due.law(y, "(least[most[(least[most[6,1],9]),2],9])"), () -> y.cloud(0));
        Due.fault("law", "(least[most[(least[most[(6),1],9]),2],9])", -7, 24);
        Due.row("six in the second part, too", "1 3", () -> Due.law(y, "most[((((1)))),(((((3)))))]"), () -> y.cloud(0));
        Due.fault("law", "most[((((1)))),((((((3))))))]", -7, 20);
    }

    private static void numbersOfAWork() {
        Due.fault("work", "fern 0 10;", -8, 7);
        Due.fault("work", "fern 2 0;", -8, 5);
        Due.fault("work", "again 31[];", -8, 6);
        FernHeirs x = Due.of("heir 5 2;heir 9 0;");
        Due.row("the last heir", "1 1", () -> Due.work(x, "crack 1;"), () -> x.heir(1, 4));
        Due.row("ferns 0 and 9", "2 0 9", () -> Due.work(x, "fern 0 0;fern 1 9;"), () -> x.heir(0, 1), () -> x.heir(1, 1));
        Due.row("again 30", "30 30", () -> Due.work(x, "again 30[hour;];"), () -> x.told(3));
        Due.row("again 0", "0 30 0", () -> Due.work(x, "again 0[hour;];"), () -> x.told(3), () -> x.told(10));
        Due.row("again of no steps", "0 -1", () -> Due.work(x, "again 30[];"), x::fault);
        for (String word : new String[] {"wipe", "lift", "lower", "crack", "air", "tap", "fern"}) {
            FernHeirs none = new FernHeirs();
            Due.row("without heirs: " + word, "-8 " + (word.length() + 1), () -> Due.work(none, word + " 0 0;"), none::fault);
            FernHeirs seven = Due.of(SEVEN);
            Due.row("the seventh heir: " + word, "-1",
                    () -> Due.work(seven, word + (word.equals("fern") ? " 6 1;" : " 6;")) < 0 ? -2 : seven.fault());
            Due.row("an eighth: " + word, "-8 " + (word.length() + 1), () -> Due.work(seven, word + " 7 0;"), seven::fault);
        }
    }

    private static void sevenAgains() {
        FernHeirs x = new FernHeirs();
        String open = "again 1[".repeat(6);
        String close = "];".repeat(6);
        Due.row("six open", "1 1", () -> Due.work(x, open + "hour;" + close), () -> x.told(3));
        Due.row("six open twice", "2 3", () -> Due.work(x, open + "hour;" + close + open + "hour;" + close), () -> x.told(3));
        Due.fault("work", open + "again 1[hour;];" + close, -7, 48);
        Due.fault("work", open + "hour; again", -7, 54);
        Due.fault("work", open + close + open + "again", -7, 108);
        Due.row("a sixth behind a closed sixth", "2",
                () -> Due.work(x, "again 1[".repeat(5) + "again 1[hour;];again 1[hour;];" + "];".repeat(5)));
    }

    private static void linesOfABook() {
        FernHeirs x = new FernHeirs();
        Due.row("least and most", "2 2", () -> Due.book(x, "1 0;12 99;"), () -> x.told(9));
        Due.fault("book", "0 0;", -8, 0);
        Due.fault("book", "13 0;", -8, 0);
        Due.fault("book", "1 100;", -8, 2);
        String six = "12 0;11 0;10 0;9 0;8 0;7 0;";
        Due.row("six lines", "6 6", () -> Due.book(x, six), () -> x.told(9));
        Due.fault("book", six + "6 0;", -7, 27);
        Due.fault("book", "3 1;4 1;3 1;", -8, 8);
        Due.fault("book", "3 1;3 2;", -8, 4);
        Due.fault("book", "12 1;012 2;", -8, 5);
        Due.row("no lines", "0 0", () -> Due.book(x, "   "), () -> x.told(9));
        Due.row("an H of an earlier book", "1 1", () -> Due.book(x, "12 5;"), () -> x.told(9));
        Due.row("an H of a book with a fault", "-9 1 1", () -> Due.book(x, "4 1;5 1"), () -> Due.book(x, "4 1;"), () -> x.told(9));
    }

    // ---- terms: numbers, words, blanks ----

    private static void digitsAsManyAsStandThere() {
        FernHeirs x = new FernHeirs();
        String zeros = "0".repeat(60);
        Due.row("leading zeros", "1 7 9", () -> Due.court(x, "heir " + zeros + "7 " + zeros + "9;"), () -> x.heir(0, 0),
                () -> x.heir(0, 1));
        Due.fault("court", "heir " + zeros + "10 0;", -8, 5);
        Due.fault("court", "heir 12 3;", -8, 5);
        Due.fault("court", "heir 123;", -8, 5);
        Due.fault("court", "heir 1 23;", -8, 7);
        String[] wraps = {"4294967297", "18446744073709551617", "2147483648", "65537", "257", "10001", "1" + zeros + "1", "9".repeat(100)};
        for (String number : wraps) {
            Due.fault("court", "heir " + number + " 0;", -8, 5);
            Due.fault("court", "sun " + number + ";", -8, 4);
            Due.fault("law", "1 + " + (number.equals("257") ? "1001" : number), -8, 4);
            Due.fault("work", "wipe " + number + ";", -8, 5);
        }
        Due.fault("book", "1 4294967297;", -8, 2);
        Due.fault("book", "4294967297 1;", -8, 0);
        Due.fault("court", "sun 1.5;", -9, 5);
        Due.fault("court", "sun +1;", -9, 4);
        Due.fault("court", "sun -1;", -9, 4);
        Due.fault("court", "sun 1 2;", -9, 6);
    }

    private static void lettersAsManyAsStandThere() {
        FernHeirs x = new FernHeirs();
        Due.row("a number just behind a word", "1 5 2 8", () -> Due.court(x, "heir5 2;sun8;"), () -> x.heir(0, 0), () -> x.heir(0, 1),
                () -> x.told(7));
        Due.row("a word just behind a number's sign", "1 3", () -> Due.law(x, "least[3,heir+9]"), () -> x.cloud(0));
        Due.fault("court", "heirheir 1 2;", -9, 0);
        Due.fault("court", "suns 1;", -9, 0);
        Due.fault("court", "su n 1;", -9, 0);
        Due.fault("court", "Sun 1;", -9, 0);
        Due.fault("court", "SUN 1;", -9, 0);
        Due.fault("court", "sun 1;keepers 0 1;", -9, 6);
        Due.fault("court", "sun five;", -9, 4);
        Due.fault("law", "breathferns", -9, 0);
        Due.fault("law", "1 + air mist", -9, 8);
        Due.fault("law", "5breath", -9, 1);
        Due.fault("law", "leastmost[1,2]", -9, 0);
        Due.fault("law", "dawn", -9, 0);
        Due.fault("law", "1 - again", -9, 4);
        Due.fault("work", "hourhour;", -9, 0);
        Due.fault("work", "breath;", -9, 0);
        Due.fault("work", "dawn;heir 1 1;", -9, 5);
        Due.fault("work", "fern 1 one;", -9, 7);
    }

    /** What each byte is answered: alone, behind a word, behind a number, in the midst of a law. */
    private static void signsOneByOne() {
        for (int b = 0; b < 256; b++) {
            String sign = "" + (char) b;
            boolean digit = b >= '0' && b <= '9';
            boolean letter = b >= 'a' && b <= 'z';
            boolean blank = b == ' ';
            FernHeirs x = new FernHeirs();
            Due.row("the court of byte " + b, blank ? "0 -1" : "-9 0", () -> Due.court(x, sign), x::fault);
            Due.row("the work of byte " + b, blank ? "0 -1" : "-9 0", () -> Due.work(x, sign), x::fault);
            Due.row("the book of byte " + b, blank ? "0 -1" : b == '0' ? "-8 0" : digit ? "-9 1" : "-9 0", () -> Due.book(x, sign),
                    x::fault);
            Due.row("the law of byte " + b, digit ? "1 -1" : blank || b == '(' ? "-9 1" : "-9 0", () -> Due.law(x, sign), x::fault);
            Due.row("behind a word, byte " + b, letter ? "-9 0" : blank || b == '0' || b == '1' ? "0 -1" : digit ? "-8 3" : "-9 3",
                    () -> Due.court(x, "sun" + sign + "9;"), x::fault);
            Due.row("behind a number, byte " + b, blank ? "0 -1" : digit ? "-8 4" : b == ';' ? "-9 6" : "-9 5",
                    () -> Due.court(x, "sun 9" + sign + ";"), x::fault);
            boolean sum = b == '+' || b == '-' || b == '*' || b == '/' || b == '%';
            Due.row("in a law, byte " + b, sum || digit ? "1 -1" : blank ? "-9 2" : "-9 1", () -> Due.law(x, "1" + sign + "2"), x::fault);
        }
    }

    private static void blanks() {
        FernHeirs x = new FernHeirs();
        Due.row("ahead of all, and at the end", "2 1 0 3",
                () -> Due.court(x, "   heir   4   2  ;  heir 1 1 ; hears  1   0 ; sun   3  ;   "),
                () -> x.two(0, 0), () -> x.two(0, 1), () -> x.told(7));
        Due.row("a law", "1 17", () -> Due.law(x, "  least  [  ( breath  *  5 )  ,  99  ]  +  9 %  4 -  8  /  2  "), () -> x.cloud(0));
        Due.row("a work", "3 -1", () -> Due.work(x, "  again   3   [   hour   ;   ]   ;   "), x::fault);
        Due.row("a book", "2 2", () -> Due.book(x, "  1   2   ;   2   3   ;   "), () -> x.told(9));
        Due.row("none at all", "2 5", () -> Due.court(x, "heir5 2;heir9 0;"), () -> x.heir(0, 0));
        Due.fault("court", "heir 1\t2;", -9, 6);
        Due.fault("court", "heir 1 2;\n", -9, 9);
        Due.fault("court", "heir 1 2;\u0000", -9, 9);
        Due.fault("court", "heir 1\u00a02;", -9, 6);
        Due.fault("law", "1 \u0000", -9, 2);
    }

    // ---- terms: faults ----

    private static void endsTooEarly() {
        String[] texts = {"court", "heir 1 2;hears", "law", "least[1,2", "work", "again 2[fern 1 2;];fern 1", "book", "1 2;3 4"};
        for (int i = 0; i < texts.length; i += 2) {
            String text = texts[i + 1];
            Due.fault(texts[i], text, -9, text.length());
            Due.fault(texts[i], text + "    ", -9, text.length() + 4);
        }
        FernHeirs x = new FernHeirs();
        Due.feed(x, "sun 12;");
        Due.row("at the length, not at the end of the tape", "-9 6", () -> x.court(6), x::fault);
        Due.feed(x, "sun 12;");
        Due.row("though a digit follows", "-9 5", () -> x.court(5), x::fault);
        Due.feed(x, "sun 12;");
        Due.row("a word cut off", "-9 0", () -> x.court(2), x::fault);
        Due.feed(x, "12 + 345");
        Due.row("a number cut off", "1 15", () -> x.law(6), () -> x.would(1, 0, 0, 0, 0, 0, 0, 0, 0));
        Due.feed(x, "sun 12;sun 2;");
        Due.row("a second word cut off", "-9 7", () -> x.court(9), x::fault);
        Due.feed(x, "5 + breaths");
        Due.row("letters behind the text are no part of its word", "1 9", () -> x.law(10), () -> x.would(4, 0, 0, 0, 0, 0, 0, 0, 0));
    }

    private static void firstFromTheLeft() {
        Due.fault("court", "heir 0 10;heirs", -8, 5);
        Due.fault("court", "heir x 10;", -9, 5);
        Due.fault("court", "heir 1 10 heir 0 0;", -8, 7);
        Due.fault("court", "heir 1 9 heir 0 0;", -9, 9);
        Due.fault("court", SEVEN + "heir x;sun 99;", -7, 63);
        Due.fault("court", "sun 24;" + SEVEN + SEVEN, -8, 4);
        Due.fault("law", "1 + 1000 + ?", -8, 4);
        Due.fault("law", "1 ? 1000", -9, 2);
        Due.fault("law", "((((((1000(", -8, 6);
        Due.fault("law", "(((((((1000", -7, 6);
        Due.fault("work", "wipe 9;nonsense;", -8, 5);
        Due.fault("work", "again 31[again", -8, 6);
        Due.fault("work", "fern 9 99;", -8, 5);
        Due.fault("book", "0 100;0 0;", -8, 0);
        Due.fault("book", "1 100;1 0;", -8, 2);
        Due.fault("book", "1 1 1 1;", -9, 4);
    }

    private static void leastOfOnePlace() {
        String six = "1 0;2 0;3 0;4 0;5 0;6 0;";
        Due.fault("book", six + "1 0;", -8, 24);
        Due.fault("book", six + "0 0;", -8, 24);
        Due.fault("book", six + "13 0;", -8, 24);
        Due.fault("book", six + "7 0;", -7, 24);
        Due.fault("book", six + "wipe", -9, 24);
        String suns = "sun 1;".repeat(60);
        Due.fault("court", suns + "moon 1;", -9, 360);
        Due.fault("court", suns + "7", -9, 360);
        Due.fault("law", "((((((+", -9, 6);
        Due.fault("law", "((((((leasts", -9, 6);
        Due.fault("work", "again 1[".repeat(6) + "agains", -9, 48);
    }

    // ---- promise 7 ----

    private static void latestText() {
        FernHeirs x = new FernHeirs();
        Due.same("ahead of any text", x.fault(), -1);
        String[] kinds = {"court", "law", "work", "book"};
        String[] right = {"sun 1;", "1", "hour;", "1 1;"};
        for (int i = 0; i < 4; i++) {
            for (int other = 0; other < 4; other++) {
                Due.text(x, kinds[i], "   ?");
                Due.same("the fault of a " + kinds[i], x.fault(), 3);
                Due.text(x, kinds[other], right[other]);
                Due.same("none behind a " + kinds[other] + " without", x.fault(), -1);
            }
        }
        Due.law(x, " ?");
        Due.wrongArgument("no text", () -> x.law(1));
        Due.wrongArgument("no text", () -> x.court(-1));
        Due.row("a refused call is no text", "1 -1", x::fault, () -> x.restore());
        x.undo();
        x.image();
        x.restore();
        Due.same("nor is another call", x.fault(), 1);
    }

    private static void allButTheTapeStays() {
        String[] kinds = {"court", "law", "work", "book"};
        String[][] wrong = {{"sun 24;", "heir 1 1;hears 0 0;", "heir 1 1;keeper 0 4;sun 2;x", SEVEN + "heir 1 1;"},
            {"1000", "1 + ", "(((((((1)))))))", ""}, {"dawn;wipe 2;", "lift 0;hour", "tap 0;hour;fern 0 5;]", "again 31[];"},
            {"1 1;1 2;", "13 1;", "2 2;1", "1 0;2 0;3 0;4 0;5 0;6 0;7 0;"}};
        for (int i = 0; i < 4; i++) {
            FernHeirs x = Due.of("heir 9 0;heir 4 7;hears 0 1;keeper 1 3;sun 7;", "breath * 3 - taps + mist % 2");
            Due.book(x, "1 27;3 80;");
            Due.work(x, "wipe 0;tap 0;hour;crack 1;hour;tap 1;");
            x.image();
            Due.law(x, "?");
            String before = Due.all(x);
            for (String text : wrong[i]) {
                Due.same("a fault of " + kinds[i] + " <" + text + ">", Due.text(x, kinds[i], text) < -6 ? 1 : 0, 1);
            }
            Due.law(x, "?");
            Due.asBefore("faults of " + kinds[i], before, Due.all(x));
            Due.row("the works and images", "0 0 -1", x::undo, x::restore, x::restore);
        }
    }

    // ---- promises 1 and 3: a court is as a new object, with its clauses ----

    private static void courtAnew() {
        for (String court : new String[] {"", "heir 4 3;", "heir 4 3;heir 4 2;hears 0 1;keeper 1 3;sun 3;"}) {
            FernHeirs x = Due.of("heir 9 0;heir 8 1;heir 7 7;hears 0 1;hears 1 2;keeper 0 1;keeper 2 5;sun 7;", "7 + mist");
            Due.book(x, "1 7;2 21;");
            Due.work(x, "crack 0;crack 1;lift 2;fern 1 9;again 13[hour;];tap 0;tap 1;lower 0;");
            Due.work(x, "hour;lower 0;tap 0;tap 1;");
            x.image();
            x.image();
            Due.court(x, "heir 1 1;heir 2 2;heir 3 3;hears 2 1;hears 0 1;keeper 1 1;keeper 0 2;sun 1;?");
            FernHeirs fresh = Due.of(court);
            Due.court(x, court);
            Due.asBefore("a court <" + court + "> behind another one", Due.all(fresh), Due.all(x));
            Due.row("no images, nothing to undo", "-1 -1", x::restore, x::undo);
            Due.row("hours go by alike", "1 1", () -> Due.work(x, "hour;"), () -> Due.work(fresh, "hour;"));
            Due.asBefore("an hour of <" + court + "> behind another one", Due.all(fresh), Due.all(x));
        }
    }

    private static void lawInTheOtherOnesPlace() {
        FernHeirs x = Due.of("heir 5 2;");
        Due.row("the usual law, another, a third", "12 1 3 1 4", () -> x.cloud(0), () -> Due.law(x, "3"), () -> x.cloud(0),
                () -> Due.law(x, "4"),
                () -> x.cloud(0));
        Due.row("a fault leaves the third", "-9 4 1 5", () -> Due.law(x, "6 +"), () -> x.cloud(0), () -> Due.law(x, "5"), () -> x.cloud(0));
        Due.row("a book, another, a third", "1 1 2 2 0 0", () -> Due.book(x, "1 1;"), () -> x.told(9), () -> Due.book(x, "1 1;2 2;"),
                () -> x.told(9),
                () -> Due.book(x, ""), () -> x.told(9));
        FernHeirs y = Due.of("heir 1 0;heir 2 0;");
        Due.law(x, "9");
        Due.work(x, "hour;");
        Due.row("another object has its own", "2 2 4 0", () -> y.told(0), () -> y.cloud(0), () -> y.cloud(1), () -> y.told(3));
    }
}
