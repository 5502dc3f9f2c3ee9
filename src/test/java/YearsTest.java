/** Promises 38 and 39: years by seeds. From seed 1 on 16838, 5758, 10113, 17515, 31051, 5627, 23010, 7419, 16212, 4086 are drawn. */
public final class YearsTest {
    public static void main(String[] args) {
        oneHeir();
        twoHeirs();
        gasps();
        spans();
        noHeirs();
        refusals();
        Due.end();
    }

    private static void oneHeir() {
        FernHeirs x = Due.of("heir 9 3;");
        // lift, tap, air, lower, wipe: 5758, 17515, 5627, 7419, 4086 by 5
        Due.row("stands", "0 0 0 1 1", () -> x.year(1, 1, 3), () -> x.year(1, 2, 3), () -> x.year(1, 3, 3), () -> x.year(1, 4, 3),
                () -> x.year(1, 5, 3));
        Due.row("mist", "0 0 0 21 21", () -> x.year(1, 1, 0), () -> x.year(1, 2, 0), () -> x.year(1, 3, 0),
                () -> x.year(1, 4, 0), () -> x.year(1, 5, 0));
        Due.row("asked, nothing stays", "0 1 0", () -> x.told(3), () -> x.told(4), () -> x.told(11));
        Due.work(x, "hour;");
        Due.row("from what there is", "0 21", () -> x.year(1, 1, 0), () -> x.year(1, 4, 0));
    }

    private static void twoHeirs() {
        FernHeirs x = Due.of("heir 9 9;heir 9 3;hears 0 1;keeper 1 2;");
        // lift 0, tap 1, air 1, lower 0, wipe 0: 16838, 10113, 31051, 23010, 16212 by 2
        Due.row("stands", "2 2 2 3 3", () -> x.year(1, 1, 3), () -> x.year(1, 2, 3), () -> x.year(1, 3, 3), () -> x.year(1, 4, 3),
                () -> x.year(1, 5, 3));
        Due.row("mist, coughs in hours 0, 2, 4", "20 41 61 109 126", () -> x.year(1, 1, 0), () -> x.year(1, 2, 0),
                () -> x.year(1, 3, 0), () -> x.year(1, 4, 0), () -> x.year(1, 5, 0));
        Due.row("elder", "-1 -1 1 1", () -> x.year(1, 1, 1), () -> x.year(1, 2, 1), () -> x.year(1, 3, 1), () -> x.year(1, 5, 1));
        Due.same("seeds of 32 bits", x.year(Integer.MIN_VALUE + 1, 5, 0), 126);
        Due.same("elder by now", Due.work(x, "hour;hour;hour;"), 3);
        Due.row("who clouded earlier", "0 0", () -> x.told(6), () -> x.year(1, 2, 1));
    }

    private static void gasps() {
        FernHeirs x = Due.of("heir 9 0;heir 8 0;heir 7 0;heir 9 1;");
        Due.work(x, "again 15[hour;];");
        Due.same("gasps by now", x.told(8), 5 + 3 + 1 + 3);
        int[] due = new int[4];
        for (int seed = 0; seed < 4; seed++) {
            due[seed] = done(x, seed, 24);
            Due.same("gasps in the year of " + seed, x.year(seed, 24, 2), due[seed]);
        }
        Due.same("the fewest", x.span(0, 4, 24, 0), Math.min(Math.min(due[0], due[1]), Math.min(due[2], due[3])));
        Due.same("the most", x.span(0, 4, 24, 1), Math.max(Math.max(due[0], due[1]), Math.max(due[2], due[3])));
    }

    /** A year as works, undone again: how many gasps there are in it. */
    private static int done(FernHeirs x, int seed, int hours) {
        int before = x.told(8);
        int works = Due.yearAsWorks(x, seed, hours);
        int gasps = x.told(8) - before;
        for (int i = 0; i < works; i++) {
            x.undo();
        }
        return gasps;
    }

    private static void spans() {
        FernHeirs x = Due.of("heir 9 0;heir 5 0;");
        for (int seed = Integer.MAX_VALUE - 2; seed != Integer.MIN_VALUE + 3; seed++) {
            int first = seed;
            int fewest = 999;
            int most = 0;
            int elders = 0;
            for (int i = 0; i < 20; i++) {
                fewest = Math.min(fewest, x.year(first + i, 20, 2));
                most = Math.max(most, x.year(first + i, 20, 2));
                elders += x.year(first + i, 20, 1) >= 0 ? 1 : 0;
            }
            Due.row("span of 20 from " + first, fewest + " " + most + " " + elders, () -> x.span(first, 20, 20, 0),
                    () -> x.span(first, 20, 20, 1), () -> x.span(first, 20, 20, 2));
            Due.row("span of 1 from " + first, x.year(first, 20, 2) + " " + x.year(first, 20, 2), () -> x.span(first, 1, 20, 0),
                    () -> x.span(first, 1, 20, 1));
            Due.same("span of an hour from " + first, x.span(first, 20, 1, 1), 0);
            Due.court(x, "heir 9 0;heir 5 0;");
        }
    }

    private static void noHeirs() {
        FernHeirs x = new FernHeirs();
        Due.row("a year without heirs", "0 -1 0 0", () -> x.year(5, 96, 0), () -> x.year(5, 96, 1), () -> x.year(5, 96, 2),
                () -> x.year(5, 96, 3));
        Due.row("a span without heirs", "0 0 0", () -> x.span(5, 20, 96, 0), () -> x.span(5, 20, 96, 1), () -> x.span(5, 20, 96, 2));
    }

    private static void refusals() {
        FernHeirs x = Due.of("heir 1 1;");
        Due.wrongArgument("no hours", () -> x.year(1, 0, 0));
        Due.wrongArgument("97 hours", () -> x.year(1, 97, 0));
        Due.wrongArgument("year 4", () -> x.year(1, 1, 4));
        Due.wrongArgument("year -1", () -> x.year(1, 1, -1));
        Due.wrongArgument("no seeds", () -> x.span(1, 0, 1, 0));
        Due.wrongArgument("21 seeds", () -> x.span(1, 21, 1, 0));
        Due.wrongArgument("span of no hours", () -> x.span(1, 1, 0, 0));
        Due.wrongArgument("span of 97 hours", () -> x.span(1, 1, 97, 0));
        Due.wrongArgument("span 3", () -> x.span(1, 1, 1, 3));
        Due.wrongArgument("span -1", () -> x.span(1, 1, 1, -1));
        Due.same("refused", x.status(1), 10);
    }
}
