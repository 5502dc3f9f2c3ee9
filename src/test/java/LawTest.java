/** Promises 4, 13 and 14: laws, and what comes on a glass by them. */
public final class LawTest {
    public static void main(String[] args) {
        values();
        sums();
        wraps();
        wouldRefuses();
        clouds();
        Due.end();
    }

    private static void law(String law, int want) {
        FernHeirs x = new FernHeirs();
        Due.same("law " + law, Due.law(x, law), 1);
        Due.same("would by " + law, x.would(2, 3, 4, 5, 1, 7, 8, 1, 6), want);
    }

    private static void values() {
        String[] words = {"breath", "ferns", "taps", "air", "cracks", "mist", "hour", "sun", "heir"};
        int[] due = {2, 3, 4, 5, 1, 7, 8, 1, 6};
        for (int i = 0; i < words.length; i++) {
            law(words[i], due[i]);
            law(words[i] + " * 3", 3 * due[i]);
        }
    }

    private static void sums() {
        law("1 + 2 * 3", 7);
        law("2 * 3 + 1", 7);
        law("20 - 5 - 3", 12);
        law("20 - 5 + 3", 18);
        law("40 / 3 / 2", 6);
        law("3 * 7 / 2", 10);
        law("17 % 7 * 2", 6);
        law("2 * 17 % 7", 6);
        law("( 1 + 2 ) * 3", 9);
        law("20 - ( 5 - 3 )", 18);
        law("5 / 0 + 3", 3);
        law("5 % 0 + 3", 3);
        law("20 + ( 0 - 7 ) / 2", 17);
        law("20 + ( 0 - 7 ) % 4", 17);
        law("20 + 7 % ( 0 - 4 )", 23);
        law("20 + 7 / ( 0 - 2 )", 17);
        law("least [ 9 , 4 ]", 4);
        law("least[4,9]", 4);
        law("most[9,4]", 9);
        law("most[4,9]", 9);
        law("most [ least [ 3 , 8 ] + 1 , mist - 9 ]", 4);
        law("999", 40);
        law("41", 40);
        law("40", 40);
        law("39", 39);
        law("0", 0);
        law("1 - 2", 0);
        law(" 007 ", 7);
    }

    private static void wraps() {
        String thirty = "32*32*32*32*32*32";
        law("(" + thirty + "*2)/(" + thirty + ")*9", 0);
        law("11-(" + thirty + "*2)/(" + thirty + ")", 13);
        law("0-" + thirty + "*2", 0);
        law("7+(" + thirty + "*2)/(0-1)%100", 0);
        law("(" + thirty + "*2)%(0-1)+5", 5);
        law(thirty + "*4+5", 5);
        law("(" + thirty + "*2-1)%10", 7);
    }

    private static void wouldRefuses() {
        FernHeirs x = new FernHeirs();
        int[] least = {1, 0, 0, 0, 0, 0, 0, 0, 0};
        int[] most = {9, 9, 999, 99, 3, 99, 23, 1, 6};
        for (int i = 0; i < 9; i++) {
            int[] a = least.clone();
            a[i] = least[i] - 1;
            Due.wrongArgument("would, too little of " + i, () -> would(x, a));
            int[] b = most.clone();
            b[i] = most[i] + 1;
            Due.wrongArgument("would, too much of " + i, () -> would(x, b));
            int[] c = least.clone();
            c[i] = most[i];
            Due.same("would, most of " + i, would(x, c), i == 0 ? 18 : i == 1 ? 11 : i == 2 ? 0 : 2);
        }
        Due.same("refused", x.status(1), 18);
        Due.same("would, all the most", would(x, most), 0);
    }

    private static int would(FernHeirs x, int[] a) {
        return x.would(a[0], a[1], a[2], a[3], a[4], a[5], a[6], a[7], a[8]);
    }

    private static void clouds() {
        FernHeirs x = Due.of("heir 5 2;heir 9 0;heir 2 9;hears 0 1;hears 0 2;keeper 1 1;sun 2;");
        Due.row("by the usual law", "12 18 13", () -> x.cloud(0), () -> x.cloud(1), () -> x.cloud(2));
        Due.work(x, "tap 0;tap 0;tap 1;");
        Due.row("with taps heard, without coughs", "11 16 11", () -> x.cloud(0), () -> x.cloud(1), () -> x.cloud(2));
        Due.law(x, "air");
        Due.same("40 at most", x.cloud(0), 40);
        Due.law(x, "heir * 10 + cracks + sun * 5 + hour");
        Due.row("by hour and heir", "0 10 20", () -> x.cloud(0), () -> x.cloud(1), () -> x.cloud(2));
        Due.work(x, "crack 1;crack 1;hour;hour;");
        Due.row("the sun shines in", "7 19 27", () -> x.cloud(0), () -> x.cloud(1), () -> x.cloud(2));
        Due.work(x, "again 24[hour;];lift 1;");
        Due.row("a day later, the glass is off", "7 0 27", () -> x.cloud(0), () -> x.cloud(1), () -> x.cloud(2));
        Due.law(x, "mist + air");
        Due.work(x, "wipe 0;wipe 2;hour;");
        Due.same("21 of mist, 18 of air", x.cloud(0), 39);
        Due.noSuch("cloud of none", () -> x.cloud(3));
        Due.noSuch("cloud of fewer", () -> x.cloud(-1));
    }
}
