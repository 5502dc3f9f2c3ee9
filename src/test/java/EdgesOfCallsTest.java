import java.util.NoSuchElementException;

/** The least and the most that each call takes, what is refused on either side, by which exception, and what that leaves. */
public final class EdgesOfCallsTest {
    private static final int LOW = Integer.MIN_VALUE;
    private static final int HIGH = Integer.MAX_VALUE;
    private static final boolean MISSED = true;
    private static final boolean WRONG = false;

    /** A call of the face, its arguments in a row. */
    interface Call {
        int ask(FernHeirs x, int[] a);
    }

    /** What an argument may be, and whether other ones are missed (NoSuchElementException) or wrong (IllegalArgumentException). */
    record Range(int least, int most, boolean missed) {
    }

    /** A call, and its arguments; right ones are there for those that are not looked at. */
    record Face(String name, Call call, int[] right, Range... ranges) {
    }

    public static void main(String[] args) {
        String two = "heir 5 2;heir 9 0;hears 1 0;keeper 1 5;";
        allRanges("heir 1 0;".repeat(7) + "hears 0 1;hears 0 2;hears 0 3;hears 0 4;hears 0 5;hears 0 6;hears 1 2;hears 1 3;hears 1 4;"
                + "hears 1 5;hears 1 6;hears 2 3;" + "keeper 6 1;".repeat(6), 7, 12, 6);
        allRanges(two, 2, 1, 1);
        allRanges("heir 5 2;", 1, 0, 0);
        allRanges("", 0, 0, 0);
        hushOfOne();
        neverRefused();
        refusalsCounted();
        countedUpToTheMost();
        whatARefusalLeaves(two);
        Due.end();
    }

    private static Range missed(int many) {
        return new Range(0, many - 1, MISSED);
    }

    private static Range wrong(int least, int most) {
        return new Range(least, most, WRONG);
    }

    private static int[] row(int... numbers) {
        return numbers;
    }

    private static Face[] faces(int heirs, int twos, int keepers) {
        return new Face[] {
            new Face("told", (x, a) -> x.told(a[0]), row(0), wrong(0, 11)),
            new Face("heir", (x, a) -> x.heir(a[0], a[1]), row(0, 0), missed(heirs), wrong(0, 9)),
            new Face("two", (x, a) -> x.two(a[0], a[1]), row(0, 0), missed(twos), wrong(0, 1)),
            new Face("keeper", (x, a) -> x.keeper(a[0], a[1]), row(0, 0), missed(keepers), wrong(0, 2)),
            new Face("cloud", (x, a) -> x.cloud(a[0]), row(0), missed(heirs)),
            new Face("would", (x, a) -> x.would(a[0], a[1], a[2], a[3], a[4], a[5], a[6], a[7], a[8]), row(1, 0, 0, 0, 0, 0, 0, 0, 0),
                    wrong(1, 9), wrong(0, 9), wrong(0, 999), wrong(0, 99), wrong(0, 3), wrong(0, 99), wrong(0, 23), wrong(0, 1), wrong(0, 6)),
            new Face("rank", (x, a) -> x.rank(a[0]), row(0), wrong(0, 6)),
            new Face("ahead", (x, a) -> x.ahead(a[0], a[1]), row(0, 0), wrong(0, 99), wrong(0, 3)),
            new Face("clouds", (x, a) -> x.clouds(a[0]), row(0), missed(heirs)),
            new Face("wipes", (x, a) -> x.wipes(a[0]), row(0), missed(heirs)),
            new Face("gasp", (x, a) -> x.gasp(a[0]), row(0), missed(heirs)),
            new Face("way", (x, a) -> x.way(a[0], a[1]), row(0, 0), missed(heirs), missed(heirs)),
            new Face("seat", (x, a) -> x.seat(a[0]), row(0), wrong(0, HIGH)),
            new Face("fits", (x, a) -> x.fits(a[0], a[1]), row(0, 0), missed(heirs), wrong(0, 1)),
            new Face("look", (x, a) -> x.look(a[0], a[1]), row(0, 0), missed(heirs), wrong(0, 1)),
            new Face("lots of 20", (x, a) -> x.lots(20, a[0], a[1], a[2]), row(0, 0, 0), wrong(0, 20), wrong(0, 20), wrong(0, 1)),
            new Face("lots of 1", (x, a) -> x.lots(1, a[0], a[1], a[2]), row(0, 0, 0), wrong(0, 1), wrong(0, 1), wrong(0, 1)),
            new Face("lots of 7", (x, a) -> x.lots(7, a[0], a[1], a[2]), row(7, 7, 1), wrong(0, 7), wrong(0, 7), wrong(0, 1)),
            new Face("lots of some", (x, a) -> x.lots(a[0], 0, 0, 0), row(5), wrong(1, 20)),
            new Face("regents", (x, a) -> x.regents(a[0], a[1], a[2]), row(0, 0, 0), wrong(0, 99), wrong(0, 99), wrong(0, 2)),
            new Face("moss", (x, a) -> x.moss(a[0], a[1], a[2]), row(0, 1, 9), missed(heirs), wrong(0, (1 << heirs) - 1), wrong(0, 99)),
            new Face("backward", (x, a) -> x.backward(a[0]), row(0), wrong(0, 99_999_999)),
            new Face("greenest", (x, a) -> x.greenest(a[0]), row(0), wrong(0, 1)),
            new Face("ear", (x, a) -> x.ear(a[0]), row(0), missed(heirs)),
            new Face("stalest", (x, a) -> x.stalest(a[0]), row(0), wrong(0, 1)),
            new Face("coughs", (x, a) -> x.coughs(a[0], a[1]), row(0, 0), missed(heirs), wrong(0, 99)),
            new Face("twins", (x, a) -> x.twins(a[0]), row(0), wrong(0, 1)),
            new Face("gossip", (x, a) -> x.gossip(a[0]), row(0), wrong(0, 1)),
            new Face("year", (x, a) -> x.year(a[0], a[1], a[2]), row(1, 1, 0), wrong(LOW, HIGH), wrong(1, 96), wrong(0, 3)),
            new Face("span", (x, a) -> x.span(a[0], a[1], a[2], a[3]), row(1, 1, 1, 0), wrong(LOW, HIGH), wrong(1, 20), wrong(1, 96), wrong(0, 2)),
        };
    }

    private static void allRanges(String court, int heirs, int twos, int keepers) {
        for (Face face : faces(heirs, twos, keepers)) {
            FernHeirs x = Due.of(court);
            boolean some = face.ranges[0].least <= face.ranges[0].most;
            for (int at = 0; at < face.ranges.length; at++) {
                outside(x, face, at, some);
                if (some) {
                    inside(x, face, at);
                }
            }
            allWrong(x, face);
        }
    }

    /** The least and the most are answered. */
    private static void inside(FernHeirs x, Face face, int at) {
        for (int edge : row(face.ranges[at].least, face.ranges[at].most)) {
            int[] a = face.right.clone();
            a[at] = edge;
            Due.same(told(face, a) + ", its refusal", refusal(x, face, a), 0);
        }
    }

    /** What is just outside, and far outside, is refused, and counted once; missed where there is no such heir, two or keeper at all. */
    private static void outside(FernHeirs x, Face face, int at, boolean some) {
        Range range = face.ranges[at];
        for (int number : row(LOW, range.least - 1, range.most + 1, HIGH)) {
            if (range.least <= range.most && number >= range.least && number <= range.most) {
                continue;
            }
            int[] a = face.right.clone();
            a[at] = number;
            Due.same(told(face, a) + ", its refusal", refusal(x, face, a), range.missed || !some ? 1 : 2);
        }
    }

    /** What is missed is told ahead of what is wrong. */
    private static void allWrong(FernHeirs x, Face face) {
        for (int number : row(-1, LOW, HIGH)) {
            int[] a = face.right.clone();
            boolean any = false;
            for (int at = 0; at < a.length; at++) {
                Range range = face.ranges[at];
                boolean outside = number < range.least || number > range.most;
                a[at] = outside ? number : a[at];
                any |= outside;
            }
            if (any) {
                Due.same(told(face, a) + ", its refusal", refusal(x, face, a), face.ranges[0].missed ? 1 : 2);
            }
        }
    }

    /** 1 for what is missed, 2 for what is wrong, if the call is counted likewise and by one; 0 if it is answered; else below 0. */
    private static int refusal(FernHeirs x, Face face, int[] a) {
        int missed = x.status(0);
        int wrong = x.status(1);
        int kind = 0;
        try {
            face.call.ask(x, a);
        } catch (NoSuchElementException e) {
            kind = e.getClass() == NoSuchElementException.class ? 1 : -1;
        } catch (IllegalArgumentException e) {
            kind = e.getClass() == IllegalArgumentException.class ? 2 : -2;
        }
        boolean counted = x.status(0) == missed + (kind == 1 ? 1 : 0) && x.status(1) == wrong + (kind == 2 ? 1 : 0);
        return counted ? kind : -3;
    }

    private static String told(Face face, int[] a) {
        StringBuilder all = new StringBuilder(face.name);
        for (int number : a) {
            all.append(' ').append(number);
        }
        return all.toString();
    }

    private static void hushOfOne() {
        FernHeirs x = Due.of("heir 5 2;heir 9 0;heir 1 1;hears 1 0;");
        for (int other : row(LOW, -1, 3, HIGH)) {
            Due.noSuch("hush 0 " + other, () -> x.hush(0, other));
            Due.noSuch("hush " + other + " 2", () -> x.hush(other, 2));
            Due.noSuch("hush of one who is not there " + other, () -> x.hush(other, other));
        }
        for (int heir = 0; heir < 3; heir++) {
            int one = heir;
            Due.wrongArgument("hush of one heir " + one, () -> x.hush(one, one));
        }
        Due.row("refused", "12 3", () -> x.status(0), () -> x.status(1));
        Due.row("the least and the most", "-1 0 0", () -> x.hush(0, 1), () -> x.hush(0, 2), () -> x.hush(2, 0));
    }

    private static void neverRefused() {
        FernHeirs x = new FernHeirs();
        for (int what : row(LOW, -1, 2, HIGH)) {
            Due.same("status " + what, x.status(what), FernHeirs.NONE);
        }
        for (int what : row(LOW, -1, 3, HIGH)) {
            Due.same("count " + what, x.count(what), FernHeirs.NONE);
        }
        x.feed(LOW, HIGH, -1, 0, 1);
        Due.row("answers below 0 are no refusals", "-9 -1 -1 -9 0 0", () -> x.court(20), x::undo, x::restore, () -> Due.work(x, "x"),
                () -> x.status(0), () -> x.status(1));
        x.image();
        x.image();
        x.image();
        for (int works = 0; works < 16; works++) {
            x.work(0);
        }
        for (int feeds = 0; feeds < 30; feeds++) {
            x.feed(0, 0, 0, 0, 0);
        }
        Due.row("nor is what is full", "-1 -1 -20 0 0", x::image, () -> x.feed(0, 0, 0, 0, 0), () -> x.work(0), () -> x.status(0),
                () -> x.status(1));
    }

    private static void refusalsCounted() {
        FernHeirs x = Due.of("heir 1 1;");
        Due.row("none", "0 0", () -> x.status(0), () -> x.status(1));
        for (int i = 1; i <= 9; i++) {
            Due.noSuch("heir 1", () -> x.heir(1, 0));
            Due.wrongArgument("told 12", () -> x.told(12));
            Due.wrongArgument("law 1", () -> x.law(1));
            Due.row("counted", i + " " + 2 * i, () -> x.status(0), () -> x.status(1));
        }
        x.image();
        Due.noSuch("two 0", () -> x.two(0, 0));
        Due.row("no image keeps them", "0 10 18", x::restore, () -> x.status(0), () -> x.status(1));
        Due.work(x, "hour;");
        Due.row("nor does undo take them back", "0 10 18", x::undo, () -> x.status(0), () -> x.status(1));
        Due.row("nor a court", "0 10 18", () -> Due.court(x, ""), () -> x.status(0), () -> x.status(1));
    }

    private static void countedUpToTheMost() {
        FernHeirs x = Due.of("heir 1 1;");
        Due.row("nothing yet", "0 0 0", () -> x.count(0), () -> x.count(1), () -> x.count(2));
        for (int i = 0; i < 16; i++) {
            x.work(0);
        }
        for (int i = 0; i < 4; i++) {
            x.image();
        }
        for (int i = 0; i < 31; i++) {
            x.feed(i, i, i, i, i);
        }
        Due.row("the most of each", "3 600 16", () -> x.count(0), () -> x.count(1), () -> x.count(2));
        Due.row("one less", "2 15 2 600 15", x::restore, x::undo, () -> x.count(0), () -> x.count(1), () -> x.count(2));
        Due.row("an empty tape", "0 0 2 0 15", () -> x.book(0), () -> x.count(1), () -> x.count(0), () -> x.told(9), () -> x.count(2));
    }

    private static void whatARefusalLeaves(String court) {
        for (Face face : faces(2, 1, 1)) {
            FernHeirs x = Due.of(court, "breath * 3 - taps + mist % 2");
            Due.book(x, "1 27;3 80;");
            Due.work(x, "wipe 0;tap 0;hour;crack 1;hour;tap 1;");
            x.image();
            Due.book(x, "1 1;1");
            Due.feed(x, "heir 3 4;");
            String before = Due.all(x);
            for (int at = 0; at < face.ranges.length; at++) {
                outside(x, face, at, true);
            }
            Due.asBefore("refusals of " + face.name, before, Due.all(x));
            Due.row("the tape, the works, the images", "0 0 1 3 4 -1", x::undo, x::restore, () -> x.court(9), () -> x.heir(0, 0),
                    () -> x.heir(0, 1), x::undo);
        }
    }
}
