/** Promises 9 to 12, 15, 31, 33 to 37: how it stands. */
public final class StandingTest {
    public static void main(String[] args) {
        told();
        heirs();
        twosAndKeepers();
        ranks();
        greenest();
        stalest();
        coughs();
        twins();
        sunny();
        gossip();
        Due.end();
    }

    private static void told() {
        FernHeirs x = Due.of("heir 9 7;heir 9 0;heir 1 1;hears 0 1;keeper 2 3;keeper 2 4;keeper 0 24;sun 7;");
        Due.book(x, "1 1;2 2;3 3;4 4;");
        Due.work(x, "lift 2;lift 2;hour;hour;hour;air 2;");
        Due.row("told", "3 1 3 3 3 3 0 7 0 4 2 128", () -> x.told(0), () -> x.told(1), () -> x.told(2), () -> x.told(3),
                () -> x.told(4), () -> x.told(5), () -> x.told(6), () -> x.told(7), () -> x.told(8), () -> x.told(9),
                () -> x.told(10), () -> x.told(11));
        Due.work(x, "again 8[hour;];");
        Due.row("gasps of all", "1 0", () -> x.told(8), () -> x.told(10));
        Due.work(x, "fern 0 0;again 30[hour;];");
        Due.same("gasps of two", x.told(8), x.heir(0, 8) + x.heir(1, 8));
        Due.same("of the other", x.heir(1, 8), 31);
        Due.wrongArgument("told 12", () -> x.told(12));
        Due.wrongArgument("told -1", () -> x.told(-1));
        Due.same("refused", x.status(1), 2);
    }

    private static void heirs() {
        FernHeirs x = Due.of("heir 6 2;heir 9 9;heir 1 1;hears 2 1;hears 0 1;");
        Due.work(x, "crack 1;crack 1;hour;hour;tap 0;tap 2;lift 2;fern 0 5;");
        Due.row("heir 0", "6 5 28 91 0 0 1 -1 0 2", () -> x.heir(0, 0), () -> x.heir(0, 1), () -> x.heir(0, 2),
                () -> x.heir(0, 3), () -> x.heir(0, 4), () -> x.heir(0, 5), () -> x.heir(0, 6), () -> x.heir(0, 7),
                () -> x.heir(0, 8), () -> x.heir(0, 9));
        Due.row("heir 1", "9 9 54 99 2 2 1 1 0 5", () -> x.heir(1, 0), () -> x.heir(1, 1), () -> x.heir(1, 2),
                () -> x.heir(1, 3), () -> x.heir(1, 4), () -> x.heir(1, 5), () -> x.heir(1, 6), () -> x.heir(1, 7),
                () -> x.heir(1, 8), () -> x.heir(1, 9));
        Due.row("heir 2", "1 1 0 99 0 0 0 -1 0 2", () -> x.heir(2, 0), () -> x.heir(2, 1), () -> x.heir(2, 2),
                () -> x.heir(2, 3), () -> x.heir(2, 4), () -> x.heir(2, 5), () -> x.heir(2, 6), () -> x.heir(2, 7),
                () -> x.heir(2, 8), () -> x.heir(2, 9));
        Due.wrongArgument("heir 0 10", () -> x.heir(0, 10));
        Due.wrongArgument("heir 0 -1", () -> x.heir(0, -1));
        Due.noSuch("heir 3 0", () -> x.heir(3, 0));
        Due.noSuch("heir -1 0", () -> x.heir(-1, 0));
        Due.noSuch("heir 3 10", () -> x.heir(3, 10));
        Due.row("refused", "3 2", () -> x.status(0), () -> x.status(1));
    }

    private static void twosAndKeepers() {
        FernHeirs x = Due.of("heir 6 2;heir 9 9;heir 1 1;hears 2 1;hears 0 1;keeper 1 5;keeper 0 1;keeper 2 24;");
        Due.row("twos", "2 1 0 1", () -> x.two(0, 0), () -> x.two(0, 1), () -> x.two(1, 0), () -> x.two(1, 1));
        Due.row("keepers", "1 5 0 0 1 0 2 24 0", () -> x.keeper(0, 0), () -> x.keeper(0, 1), () -> x.keeper(0, 2),
                () -> x.keeper(1, 0), () -> x.keeper(1, 1), () -> x.keeper(1, 2), () -> x.keeper(2, 0), () -> x.keeper(2, 1),
                () -> x.keeper(2, 2));
        int[] due = {4, 3, 2, 1, 0, 4};
        for (int i = 0; i < due.length; i++) {
            Due.work(x, "hour;");
            Due.same("next cough at hour " + (i + 1), x.keeper(0, 2), due[i]);
            Due.same("each hour", x.keeper(1, 2), 0);
            Due.same("each day", x.keeper(2, 2), 23 - i);
        }
        Due.noSuch("two 2", () -> x.two(2, 0));
        Due.noSuch("two -1", () -> x.two(-1, 5));
        Due.wrongArgument("two 0 2", () -> x.two(0, 2));
        Due.wrongArgument("two 0 -1", () -> x.two(0, -1));
        Due.noSuch("keeper 3", () -> x.keeper(3, 0));
        Due.noSuch("keeper -1", () -> x.keeper(-1, 9));
        Due.wrongArgument("keeper 0 3", () -> x.keeper(0, 3));
        Due.wrongArgument("keeper 0 -1", () -> x.keeper(0, -1));
        Due.row("refused", "4 4", () -> x.status(0), () -> x.status(1));
    }

    private static void ranks() {
        FernHeirs x = Due.of("heir 1 0;heir 9 9;heir 9 2;heir 9 9;heir 9 2;heir 9 9;heir 4 4;");
        Due.work(x, "hour;lift 1;lower 1;hour;hour;hour;hour;");
        Due.row("ranks", "3 5 1 2 4 6 -1", () -> x.rank(0), () -> x.rank(1), () -> x.rank(2), () -> x.rank(3),
                () -> x.rank(4), () -> x.rank(5), () -> x.rank(6));
        Due.wrongArgument("rank 7", () -> x.rank(7));
        Due.wrongArgument("rank -1", () -> x.rank(-1));
    }

    private static void greenest() {
        FernHeirs x = Due.of("heir 1 0;heir 6 3;heir 7 1;heir 2 0;");
        Due.row("no mist", "-1 -1", () -> x.greenest(0), () -> x.greenest(1));
        Due.work(x, "hour;");
        Due.row("the first of two", "1 15", () -> x.greenest(0), () -> x.greenest(1));
        Due.work(x, "wipe 1;");
        Due.row("the other", "2 15", () -> x.greenest(0), () -> x.greenest(1));
        Due.work(x, "lift 2;");
        Due.row("then", "3 4", () -> x.greenest(0), () -> x.greenest(1));
        Due.wrongArgument("greenest 2", () -> x.greenest(2));
        Due.wrongArgument("greenest -1", () -> x.greenest(-1));
    }

    private static void stalest() {
        FernHeirs x = Due.of("heir 1 1;heir 6 3;heir 7 4;heir 2 0;");
        Due.row("all air", "0 99", () -> x.stalest(0), () -> x.stalest(1));
        Due.work(x, "hour;hour;");
        Due.row("the first of two", "1 93", () -> x.stalest(0), () -> x.stalest(1));
        Due.work(x, "lift 1;");
        Due.row("the other", "2 93", () -> x.stalest(0), () -> x.stalest(1));
        Due.work(x, "air 2;");
        Due.row("the last", "3 95", () -> x.stalest(0), () -> x.stalest(1));
        Due.wrongArgument("stalest 2", () -> x.stalest(2));
        Due.wrongArgument("stalest -1", () -> x.stalest(-1));
        FernHeirs seven = Due.of("heir 1 1;".repeat(6) + "heir 4 1;");
        Due.work(seven, "hour;");
        Due.row("the last of seven", "6 96 6 9", () -> seven.stalest(0), () -> seven.stalest(1), () -> seven.greenest(0),
                () -> seven.greenest(1));
        FernHeirs none = new FernHeirs();
        Due.row("without heirs", "-1 -1", () -> none.stalest(0), () -> none.stalest(1));
    }

    private static void coughs() {
        FernHeirs x = Due.of("heir 1 1;heir 1 1;keeper 0 3;keeper 0 5;keeper 1 24;keeper 0 3;");
        Due.row("from hour 0", "0 3 3 3 5 5 6 0 1 5", () -> x.coughs(0, 0), () -> x.coughs(0, 1), () -> x.coughs(0, 2),
                () -> x.coughs(0, 3), () -> x.coughs(0, 4), () -> x.coughs(0, 5), () -> x.coughs(0, 6), () -> x.coughs(1, 0),
                () -> x.coughs(1, 24), () -> x.coughs(1, 99));
        Due.work(x, "lift 0;hour;");
        Due.row("from hour 1, the glass off", "0 0 2 2 3 5 1", () -> x.coughs(0, 1), () -> x.coughs(0, 2), () -> x.coughs(0, 3),
                () -> x.coughs(0, 4), () -> x.coughs(0, 5), () -> x.coughs(0, 6), () -> x.coughs(1, 24));
        Due.noSuch("coughs beside none", () -> x.coughs(2, 100));
        Due.noSuch("coughs beside fewer", () -> x.coughs(-1, 1));
        Due.wrongArgument("coughs in 100", () -> x.coughs(0, 100));
        Due.wrongArgument("coughs in -1", () -> x.coughs(0, -1));
    }

    private static void twins() {
        FernHeirs x = Due.of("heir 1 1;heir 6 3;heir 6 4;heir 1 3;heir 6 3;heir 6 4;heir 6 3;");
        Due.row("twins", "4 14", () -> x.twins(0), () -> x.twins(1));
        Due.work(x, "fern 1 0;");
        Due.row("by ferns that are there now", "2 25", () -> x.twins(0), () -> x.twins(1));
        Due.work(x, "fern 5 0;");
        Due.row("by now", "2 15", () -> x.twins(0), () -> x.twins(1));
        Due.work(x, "fern 5 1;fern 4 7;");
        Due.row("none", "0 -1", () -> x.twins(0), () -> x.twins(1));
        Due.work(x, "fern 3 1;lift 0;");
        Due.row("the glass does not matter", "1 3", () -> x.twins(0), () -> x.twins(1));
        FernHeirs seven = Due.of("heir 1 1;heir 1 2;heir 1 3;heir 1 4;heir 1 5;heir 1 6;heir 1 6;");
        Due.row("side by side, the last of seven", "1 56", () -> seven.twins(0), () -> seven.twins(1));
        Due.wrongArgument("twins 2", () -> x.twins(2));
        Due.wrongArgument("twins -1", () -> x.twins(-1));
    }

    private static void sunny() {
        FernHeirs x = Due.of("heir 1 1;sun 3;");
        int[] due = {3, 2, 1, 0, 23, 22};
        for (int i = 0; i < due.length; i++) {
            Due.same("sunny at hour " + i, x.sunny(), due[i]);
            Due.work(x, "hour;");
        }
        Due.work(x, "again 20[hour;];");
        Due.same("the next day", x.sunny(), 1);
        Due.same("without a clause", new FernHeirs().sunny(), 12);
    }

    private static void gossip() {
        FernHeirs x = Due.of("heir 1 1;heir 1 1;heir 1 1;heir 1 1;hears 3 1;hears 2 1;hears 3 2;hears 0 3;");
        Due.row("most twos", "3 3", () -> x.gossip(0), () -> x.gossip(1));
        Due.court(x, "heir 1 1;heir 1 1;heir 1 1;heir 1 1;hears 3 2;hears 2 1;hears 1 3;");
        Due.row("the first of three", "1 2", () -> x.gossip(0), () -> x.gossip(1));
        Due.court(x, "heir 1 1;heir 1 1;hears 1 0;");
        Due.row("the first of all", "0 1", () -> x.gossip(0), () -> x.gossip(1));
        Due.court(x, "heir 1 1;".repeat(7) + "hears 6 1;hears 6 2;");
        Due.row("the last of seven", "6 2", () -> x.gossip(0), () -> x.gossip(1));
        Due.court(x, "heir 1 1;heir 1 1;");
        Due.row("no twos", "-1 -1", () -> x.gossip(0), () -> x.gossip(1));
        Due.wrongArgument("gossip 2", () -> x.gossip(2));
        Due.wrongArgument("gossip -1", () -> x.gossip(-1));
    }
}
