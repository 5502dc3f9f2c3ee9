/** Promises 1 to 4, 6 and 7: the tape, what texts are read, and their faults. */
public final class TextsTest {
    private static final String SEVEN = "heir 1 0;".repeat(7);

    public static void main(String[] args) {
        aNewObject();
        theTape();
        theCourt();
        courtFaults();
        courtLimits();
        lawFaults();
        workFaults();
        bookFaults();
        whatAFaultLeaves();
        Due.end();
    }

    private static void aNewObject() {
        FernHeirs x = new FernHeirs();
        Due.row("told of a new object", "0 0 0 0 0 0 -1 12 0 0 0 0", () -> x.told(0), () -> x.told(1), () -> x.told(2),
                () -> x.told(3), () -> x.told(4), () -> x.told(5), () -> x.told(6), () -> x.told(7), () -> x.told(8),
                () -> x.told(9), () -> x.told(10), () -> x.told(11));
        Due.row("kept by a new object", "-1 0 0 0 0 0 -1", x::fault, () -> x.count(0), () -> x.count(1), () -> x.count(2),
                () -> x.status(0), () -> x.status(1), x::undo);
        Due.same("would by the usual law", x.would(3, 4, 1, 0, 0, 0, 0, 0, 0), 9);
    }

    private static void theTape() {
        FernHeirs x = new FernHeirs();
        Due.row("feed", "20 20", () -> x.feed(0x68656972, 0x20392038, 0x3bffffff, -1, 0), () -> x.count(1));
        Due.same("the highest byte first", x.court(9), 1);
        Due.row("the heir fed", "9 8", () -> x.heir(0, 0), () -> x.heir(0, 1));
        Due.same("the tape behind a text", x.count(1), 0);
        for (int i = 1; i <= 30; i++) {
            Due.same("feed " + i, x.feed(0x20202020, 0x20202020, 0x20202020, 0x20202020, 0x20202020), 20 * i);
        }
        Due.row("a full tape", "-1 600", () -> x.feed(0, 0, 0, 0, 0), () -> x.count(1));
        Due.wrongArgument("court of 601 bytes", () -> x.court(601));
        Due.wrongArgument("court of fewer than none", () -> x.court(-1));
        Due.wrongArgument("law of 151 bytes", () -> x.law(151));
        Due.wrongArgument("work of 151 bytes", () -> x.work(151));
        Due.wrongArgument("book of 61 bytes", () -> x.book(61));
        Due.row("behind refusals", "600 5 -1", () -> x.count(1), () -> x.status(1), x::fault);
        Due.row("600 blanks", "0 0", () -> x.court(600), () -> x.count(1));
        Due.feed(x, "hour;");
        Due.wrongArgument("work of more bytes than there are", () -> x.work(21));
        Due.wrongArgument("law of more bytes than there are", () -> x.law(-1));
        Due.wrongArgument("book of more bytes than there are", () -> x.book(21));
        Due.wrongArgument("court of more bytes than there are", () -> x.court(21));
        Due.row("work of some of them", "1 0 1", () -> x.work(5), () -> x.count(1), () -> x.told(3));
        Due.feed(x, "sun 12;");
        Due.row("a text ends where n ends: a sign", "-9 6", () -> x.court(6), x::fault);
        Due.feed(x, "sun 12;");
        Due.row("a number", "-9 5", () -> x.court(5), x::fault);
        Due.feed(x, "sun 12;");
        Due.row("a word", "-9 0", () -> x.court(2), x::fault);
        Due.feed(x, "sun 12;sun 2;");
        Due.row("a second word", "-9 7", () -> x.court(9), x::fault);
        Due.feed(x, "12breath");
        Due.row("other digits are not read", "1 1", () -> x.law(1), () -> x.would(9, 9, 0, 0, 0, 0, 0, 0, 0));
        Due.feed(x, "breaths");
        Due.row("nor other letters", "1 9", () -> x.law(6), () -> x.would(9, 9, 0, 0, 0, 0, 0, 0, 0));
        Due.feed(x, "12" + " ".repeat(148));
        Due.same("law of 150 bytes", x.law(150), 1);
        Due.feed(x, "hour;" + " ".repeat(145));
        Due.same("work of 150 bytes", x.work(150), 1);
        Due.feed(x, "1 1;" + " ".repeat(56));
        Due.same("book of 60 bytes", x.book(60), 1);
    }

    private static void theCourt() {
        FernHeirs x = Due.of("heir 5 2;heir 9 0 ; heir2 9;sun 3;hears 0 1;keeper 2 24;sun23;hears  2 1;keeper 02 0001;  ");
        Due.row("told", "3 2 2 23 7", () -> x.told(0), () -> x.told(1), () -> x.told(2), () -> x.told(7), () -> x.told(4));
        Due.row("twos", "0 1 2 1", () -> x.two(0, 0), () -> x.two(0, 1), () -> x.two(1, 0), () -> x.two(1, 1));
        Due.row("keepers", "2 24 2 1", () -> x.keeper(0, 0), () -> x.keeper(0, 1), () -> x.keeper(1, 0), () -> x.keeper(1, 1));
        Due.row("heirs", "5 2 9 0 2 9", () -> x.heir(0, 0), () -> x.heir(0, 1), () -> x.heir(1, 0), () -> x.heir(1, 1),
                () -> x.heir(2, 0), () -> x.heir(2, 1));
        Due.row("a fresh glass", "0 99 0 0 1 -1 0", () -> x.heir(1, 2), () -> x.heir(1, 3), () -> x.heir(1, 4),
                () -> x.heir(1, 5), () -> x.heir(1, 6), () -> x.heir(1, 7), () -> x.heir(1, 8));
        Due.same("a law", Due.law(x, "7"), 1);
        Due.same("a book", Due.book(x, "1 1;"), 1);
        Due.same("a work", Due.work(x, "crack 0;lower 1;again 12[hour;];lift 2;fern 1 5;tap 1;"), 16);
        Due.row("it gasped, it heard a tap", "2 1", () -> x.heir(1, 8), () -> x.heir(0, 5));
        x.image();
        Due.same("a court behind all that", Due.court(x, "heir 4 3;heir 4 2;"), 2);
        Due.row("all is new", "2 0 0 0 3 0 -1 12 0 0 0 0 0 0 0 -1", () -> x.told(0), () -> x.told(1), () -> x.told(2),
                () -> x.told(3), () -> x.told(4), () -> x.told(5), () -> x.told(6), () -> x.told(7), () -> x.told(8),
                () -> x.told(9), () -> x.told(10), () -> x.told(11), () -> x.count(0), () -> x.count(1), () -> x.count(2),
                x::undo);
        Due.row("and the usual law", "11 10 2 0 0 99 0", () -> x.cloud(0), () -> x.cloud(1), () -> x.heir(1, 1),
                () -> x.heir(0, 4), () -> x.heir(0, 5), () -> x.heir(0, 3), () -> x.heir(0, 9));
        Due.row("behind half a court", "-9 2 1 0 0 0 0 12 0", () -> Due.court(x, "heir 1 1;heir 2 2;hears 0 1;keeper 0 1;sun 5;x"),
                () -> x.told(0), () -> Due.court(x, "heir 7 7;"), () -> x.heir(0, 9), () -> x.told(1), () -> x.told(2),
                () -> x.told(3), () -> x.told(7), () -> x.heir(0, 5));
        Due.row("the sun at 0", "0 0", () -> Due.court(x, "sun 0;"), () -> x.told(7));
    }

    private static void courtFaults() {
        String[] early = {"h", "heir", "heir ", "heir 1", "heir 1 ", "heir 1 2", "heir 1 2  ", "hears", "keeper", "sun", "sun 1"};
        int[] at = {0, 4, 5, 6, 7, 8, 10, 5, 6, 3, 5};
        for (int i = 0; i < early.length; i++) {
            Due.fault("court", early[i], -9, at[i]);
        }
        Due.fault("court", "Heir 1 2;", -9, 0);
        Due.fault("court", "  heirs 1 2;", -9, 2);
        Due.fault("court", "hei r 1 2;", -9, 0);
        Due.fault("court", "heira 1 2;", -9, 0);
        Due.fault("court", "heirz 1 2;", -9, 0);
        Due.fault("court", "heirA 1 2;", -9, 4);
        Due.fault("court", "heir/1 2;", -9, 4);
        Due.fault("court", "heir:1 2;", -9, 4);
        Due.fault("court", "heir 1/2;", -9, 6);
        Due.fault("court", "heir 1:2;", -9, 6);
        Due.fault("court", "heir a 2;", -9, 5);
        Due.fault("court", "heir 1, 2;", -9, 6);
        Due.fault("court", "heir 1 2 3;", -9, 9);
        Due.fault("court", "heir -1 2;", -9, 5);
        Due.fault("court", "heir 1 2;;", -9, 9);
        Due.fault("court", ";", -9, 0);
        Due.fault("court", "heir 1\t2;", -9, 6);
        Due.fault("court", "heir 1 2;\u0000", -9, 9);
        Due.fault("court", "heir 1 2;\u00ff", -9, 9);
        Due.fault("court", "heir 1 2;wipe 0;", -9, 9);
        Due.fault("court", "heir 0 2;", -8, 5);
        Due.fault("court", "heir  10 2;", -8, 6);
        Due.fault("court", "heir 1 10;", -8, 7);
        Due.fault("court", "heir 4294967297 2;", -8, 5);
        Due.fault("court", "heir 1 18446744073709551616;", -8, 7);
        Due.fault("court", "hears 0 1;", -8, 6);
        Due.fault("court", "heir 1 0;hears 1 0;heir 1 0;", -8, 15);
        Due.fault("court", "heir 1 0;hears 0 1;heir 1 0;", -8, 17);
        Due.fault("court", "heir 1 0;hears 0  0;", -8, 18);
        Due.fault("court", "heir 1 0;heir 1 0;hears 0 1;hears 0 1;", -8, 36);
        Due.fault("court", "heir 1 0;heir 1 0;hears 0 1;hears 1 0;", -8, 36);
        Due.fault("court", "heir 1 0;keeper 1 5;", -8, 16);
        Due.fault("court", "heir 1 0;keeper 0 0;", -8, 18);
        Due.fault("court", "heir 1 0;keeper 0 25;", -8, 18);
        Due.fault("court", "sun 24;", -8, 4);
    }

    private static void courtLimits() {
        Due.same("seven heirs", Due.of(SEVEN).told(0), 7);
        Due.fault("court", SEVEN + " heir 1 0;", -7, 64);
        Due.fault("court", SEVEN + "heir x;", -7, 63);
        Due.fault("court", SEVEN + "heirx;", -9, 63);
        StringBuilder twos = new StringBuilder(SEVEN);
        int many = 0;
        for (int a = 0; a < 7; a++) {
            for (int c = a + 1; c < 7 && many < 12; c++) {
                twos.append("hears ").append(a).append(' ').append(c).append(';');
                many++;
            }
        }
        FernHeirs x = Due.of(twos.toString());
        Due.row("twelve twos", "12 2 3", () -> x.told(1), () -> x.two(11, 0), () -> x.two(11, 1));
        Due.fault("court", twos + "hears 5 6;", -7, twos.length());
        Due.fault("court", twos + "hears 0 0;", -7, twos.length());
        String keepers = "heir 1 0;" + "keeper 0 1;".repeat(6);
        Due.same("six keepers", Due.of(keepers).told(2), 6);
        Due.fault("court", keepers + "keeper 0 1;", -7, 75);
        String suns = "sun 1;".repeat(59);
        FernHeirs y = Due.of(suns + "sun 5;");
        Due.same("sixty clauses", y.told(7), 5);
        Due.fault("court", suns + "sun 5; sun 6;", -7, 361);
        Due.fault("court", suns + "sun 5;heir 1 0;", -7, 360);
        Due.fault("court", suns + "sun 5;moon 1;", -9, 360);
        Due.fault("court", suns + "sun 5;7", -9, 360);
        Due.fault("court", suns + "sun 24;sun 1;", -8, 358);
    }

    private static void lawFaults() {
        Due.fault("law", "", -9, 0);
        Due.fault("law", "   ", -9, 3);
        Due.fault("law", "breath +", -9, 8);
        Due.fault("law", "breath + ", -9, 9);
        Due.fault("law", "breath ferns", -9, 7);
        Due.fault("law", "breath ;", -9, 7);
        Due.fault("law", "breaths", -9, 0);
        Due.fault("law", "-1", -9, 0);
        Due.fault("law", "1 + * 2", -9, 4);
        Due.fault("law", "1 - -2", -9, 4);
        Due.fault("law", "( 1", -9, 3);
        Due.fault("law", "( 1 ]", -9, 4);
        Due.fault("law", "()", -9, 1);
        Due.fault("law", "1)", -9, 1);
        Due.fault("law", "least(1,2)", -9, 5);
        Due.fault("law", "most[1]", -9, 6);
        Due.fault("law", "most[1,2,3]", -9, 8);
        Due.fault("law", "most[1,]", -9, 7);
        Due.fault("law", "most[,1]", -9, 5);
        Due.fault("law", "most[1,2)", -9, 8);
        Due.fault("law", "wipe", -9, 0);
        Due.fault("law", "1 2", -9, 2);
        Due.fault("law", " 1000", -8, 1);
        Due.fault("law", "1 + 99999999999", -8, 4);
        Due.fault("law", "((((((1))))))((", -9, 13);
        Due.fault("law", "((((((1)))))+((((((((1", -7, 18);
        Due.fault("law", "(((least[(((1", -7, 11);
        Due.fault("law", "((((((least[1,2]))))))", -7, 6);
        Due.fault("law", "((((((most", -7, 6);
        Due.fault("law", "((((((mosts", -9, 6);
        Due.fault("law", "least[1,least[1,least[1,least[1,least[1,least[1, most[1,2]]]]]]]", -7, 49);
        FernHeirs x = Due.of("heir 1 0;", "((((((1))))))+least[most[(((least[3,4]))),1],9]");
        Due.same("six open at a time", x.cloud(0), 4);
    }

    private static void workFaults() {
        for (String word : new String[] {"wipe", "lift", "lower", "crack", "air", "tap"}) {
            Due.fault("work", word + " 2;", -8, word.length() + 1);
            Due.fault("work", word + ";", -9, word.length());
            Due.fault("work", word + " 1", -9, word.length() + 2);
            Due.fault("work", word + " 1 1;", -9, word.length() + 3);
            Due.fault("work", word + "s 1;", -9, 0);
        }
        Due.fault("work", "fern 2 0;", -8, 5);
        Due.fault("work", "fern 0 10;", -8, 7);
        Due.fault("work", "fern 0;", -9, 6);
        Due.fault("work", "hour 1;", -9, 5);
        Due.fault("work", "dawn 0;", -9, 5);
        Due.fault("work", "hour", -9, 4);
        Due.fault("work", "hours;", -9, 0);
        Due.fault("work", ";", -9, 0);
        Due.fault("work", "];", -9, 0);
        Due.fault("work", "hour;]", -9, 5);
        Due.fault("work", "again 31[];", -8, 6);
        Due.fault("work", "again [];", -9, 6);
        Due.fault("work", "again 1 hour;", -9, 8);
        Due.fault("work", "again 1[hour];", -9, 12);
        Due.fault("work", "again 1[hour;]", -9, 14);
        Due.fault("work", "again 1[hour;", -9, 13);
        Due.fault("work", "again 1[hour;;]", -9, 13);
        Due.fault("work", "again 1[again 1[hour;];", -9, 23);
        Due.fault("work", "again 1[wipe 2;];", -8, 13);
        String open = "again 1[".repeat(6);
        Due.fault("work", open + " again 1[", -7, 49);
        Due.fault("work", open + "again", -7, 48);
        Due.fault("work", open + "again 31", -7, 48);
        Due.fault("work", open + "agains", -9, 48);
        FernHeirs x = new FernHeirs();
        Due.same("six agains open, twice", Due.work(x, open + "hour;" + "];".repeat(6) + open + "hour;" + "];".repeat(6)), 2);
        Due.row("without heirs none can be wiped", "-8 5", () -> Due.work(x, "wipe 0;"), x::fault);
        Due.row("the fault is gone", "0 -1", () -> Due.work(x, ""), x::fault);
    }

    private static void bookFaults() {
        Due.fault("book", "1", -9, 1);
        Due.fault("book", "1;", -9, 1);
        Due.fault("book", "1 2", -9, 3);
        Due.fault("book", "1 2 3;", -9, 4);
        Due.fault("book", "hour 1;", -9, 0);
        Due.fault("book", ";", -9, 0);
        Due.fault("book", "0 1;", -8, 0);
        Due.fault("book", " 13 1;", -8, 1);
        Due.fault("book", "12 100;", -8, 3);
        Due.fault("book", "1 0;2 0;1 5;", -8, 8);
        Due.fault("book", "1 0;01 0;", -8, 4);
        String six = "1 0;2 0;3 0;4 0;5 0;12 99;";
        FernHeirs x = new FernHeirs();
        Due.row("six lines", "6 6", () -> Due.book(x, six), () -> x.told(9));
        Due.fault("book", six + " 6 0;", -7, 27);
        Due.fault("book", six + "6", -7, 26);
        Due.fault("book", six + "1 0;", -8, 26);
        Due.fault("book", six + "13 0;", -8, 26);
        Due.fault("book", six + "x", -9, 26);
        Due.row("no lines", "0 0", () -> Due.book(x, " "), () -> x.told(9));
    }

    private static void whatAFaultLeaves() {
        FernHeirs x = Due.of("heir 9 0;heir 1 1;hears 0 1;keeper 1 7;sun 4;", "5");
        Due.book(x, "3 3;4 4;");
        Due.work(x, "wipe 0;hour;");
        x.image();
        Due.row("faults", "-9 5 -8 0 -8 5 -9 4", () -> Due.court(x, "heir x"), x::fault, () -> Due.law(x, "1000"), x::fault,
                () -> Due.work(x, "wipe 7;"), x::fault, () -> Due.book(x, "1 1 "), x::fault);
        Due.row("all stays", "2 1 1 1 3 0 -1 4 0 2 1 10 1 0 1 5", () -> x.told(0), () -> x.told(1), () -> x.told(2),
                () -> x.told(3), () -> x.told(4), () -> x.told(5), () -> x.told(6), () -> x.told(7), () -> x.told(8),
                () -> x.told(9), () -> x.told(10), () -> x.told(11), () -> x.count(0), () -> x.count(1), () -> x.count(2),
                () -> x.cloud(0));
        Due.wrongArgument("a law of too many bytes", () -> x.law(1));
        Due.same("the fault behind a refusal", x.fault(), 4);
        Due.same("a text without fault", Due.law(x, "6"), 1);
        Due.row("its fault, its law", "-1 6", x::fault, () -> x.cloud(1));
    }
}
