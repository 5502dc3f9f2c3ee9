/** Promises 27 to 30: lots, regents, moss, numbers backward. */
public final class SumsTest {
    public static void main(String[] args) {
        lots();
        regents();
        moss();
        backward();
        Due.end();
    }

    private static void lot(FernHeirs x, int n, int k, int m, int above, int below) {
        Due.same("lots " + n + " " + k + " " + m + ", above", x.lots(n, k, m, 0), above);
        Due.same("lots " + n + " " + k + " " + m + ", below", x.lots(n, k, m, 1), below);
    }

    private static void lots() {
        FernHeirs x = new FernHeirs();
        lot(x, 5, 2, 2, 7, 10);
        lot(x, 1, 0, 0, 0, 1);
        lot(x, 1, 1, 0, 0, 1);
        lot(x, 1, 0, 1, 0, 1);
        lot(x, 1, 1, 1, 1, 1);
        lot(x, 20, 20, 1, 1, 1);
        lot(x, 20, 20, 0, 0, 1);
        lot(x, 20, 0, 20, 0, 1);
        lot(x, 6, 2, 3, 4, 5);
        lot(x, 6, 4, 3, 1, 1);
        lot(x, 20, 10, 10, 184755, 184756);
        lot(x, 20, 1, 20, 1, 1);
        lot(x, 20, 1, 7, 7, 20);
        lot(x, 12, 3, 4, 41, 55);
        Due.wrongArgument("lots of none", () -> x.lots(0, 0, 0, 0));
        Due.wrongArgument("lots of 21", () -> x.lots(21, 1, 1, 0));
        Due.wrongArgument("more good ones", () -> x.lots(5, 6, 1, 0));
        Due.wrongArgument("fewer good ones", () -> x.lots(5, -1, 1, 0));
        Due.wrongArgument("more drawn", () -> x.lots(5, 1, 6, 0));
        Due.wrongArgument("fewer drawn", () -> x.lots(5, 1, -1, 0));
        Due.wrongArgument("part 2", () -> x.lots(5, 1, 1, 2));
        Due.wrongArgument("part -1", () -> x.lots(5, 1, 1, -1));
        Due.same("refused", x.status(1), 8);
    }

    private static void regents() {
        for (int v = 0; v <= 99; v += 9) {
            FernHeirs x = new FernHeirs();
            for (int w = 0; w <= 99; w += 3) {
                int one = v;
                int other = w;
                // Where both wipe, nobody would have more: 0 less 1 for 0. Where neither does, w for v.
                Due.row("regents " + v + " " + w, (v >= w ? 2 : 1) + " 0 0", () -> x.regents(one, other, 0),
                        () -> x.regents(one, other, 1), () -> x.regents(one, other, 2));
            }
        }
        FernHeirs x = new FernHeirs();
        Due.wrongArgument("v 100", () -> x.regents(100, 0, 0));
        Due.wrongArgument("v -1", () -> x.regents(-1, 0, 0));
        Due.wrongArgument("w 100", () -> x.regents(0, 100, 0));
        Due.wrongArgument("w -1", () -> x.regents(0, -1, 0));
        Due.wrongArgument("regents 3", () -> x.regents(0, 0, 3));
        Due.wrongArgument("regents -1", () -> x.regents(0, 0, -1));
    }

    private static void moss() {
        FernHeirs x = Due.of("heir 5 0;heir 9 0;heir 2 0;heir 9 0;");
        Due.row("20 for all", "5 6 2 6", () -> x.moss(0, 15, 20), () -> x.moss(1, 15, 20), () -> x.moss(2, 15, 20),
                () -> x.moss(3, 15, 20));
        Due.row("about 20", "5 6 5 7", () -> x.moss(1, 15, 18), () -> x.moss(1, 15, 19), () -> x.moss(0, 15, 18),
                () -> x.moss(3, 15, 21));
        Due.row("enough for all", "9 9 9 8", () -> x.moss(1, 15, 25), () -> x.moss(1, 15, 99), () -> x.moss(1, 2, 9),
                () -> x.moss(1, 15, 24));
        Due.row("hardly any", "0 0 1 0 1", () -> x.moss(1, 15, 0), () -> x.moss(1, 15, 3), () -> x.moss(1, 15, 4),
                () -> x.moss(1, 15, 3), () -> x.moss(2, 15, 7));
        Due.row("none of them", "0 0 2", () -> x.moss(1, 13, 20), () -> x.moss(0, 0, 20), () -> x.moss(2, 4, 20));
        Due.noSuch("moss of none", () -> x.moss(4, 16, 100));
        Due.noSuch("moss of fewer", () -> x.moss(-1, 1, 1));
        Due.wrongArgument("bits of no heirs", () -> x.moss(0, 16, 1));
        Due.wrongArgument("bits of heirs and none", () -> x.moss(0, 17, 1));
        Due.wrongArgument("the highest bit", () -> x.moss(0, Integer.MIN_VALUE, 1));
        Due.wrongArgument("all bits", () -> x.moss(0, -1, 1));
        Due.wrongArgument("moss of 100", () -> x.moss(0, 1, 100));
        Due.wrongArgument("moss of -1", () -> x.moss(0, 1, -1));
        Due.row("refused", "2 6", () -> x.status(0), () -> x.status(1));
    }

    private static void backward() {
        FernHeirs x = new FernHeirs();
        Due.row("backward", "0 7 1 21 87654321 1 99999999 10000001", () -> x.backward(0), () -> x.backward(7),
                () -> x.backward(10), () -> x.backward(1200), () -> x.backward(12345678), () -> x.backward(10000000),
                () -> x.backward(99999999), () -> x.backward(10000001));
        Due.wrongArgument("backward below", () -> x.backward(-1));
        Due.wrongArgument("backward above", () -> x.backward(100000000));
    }
}
