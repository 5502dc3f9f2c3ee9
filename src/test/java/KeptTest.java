/** Promises 8 and 40 to 43: mornings undone, images, refusals, and what is counted. */
public final class KeptTest {
    public static void main(String[] args) {
        undone();
        images();
        imagesOfWorks();
        refusedSteps();
        counted();
        refused();
        Due.end();
    }

    private static void undone() {
        FernHeirs x = Due.of("heir 9 7;heir 4 4;hears 0 1;");
        Due.same("nothing to undo", x.undo(), -1);
        String[] works = {"crack 0;tap 0;", "hour;hour;lift 1;", "dawn;fern 0 0;wipe 0;wipe 0;", "", "lower 1;again 15[hour;];", "lift 1;lift 1;"};
        String[] before = new String[works.length];
        for (int i = 0; i < works.length; i++) {
            before[i] = Due.morning(x);
            Due.work(x, works[i]);
        }
        Due.same("works", x.count(2), 6);
        for (int i = works.length - 1; i >= 0; i--) {
            Due.same("undo " + works[i], x.undo(), i);
            Due.asBefore("all is as ahead of " + works[i], before[i], Due.morning(x));
        }
        Due.row("none is left", "-1 0", x::undo, () -> x.count(2));
        Due.same("a law stays", Due.law(x, "3"), 1);
        Due.row("with a law, a book", "1 1 0 3 1", () -> Due.work(x, "hour;"), () -> Due.book(x, "1 1;"), x::undo, () -> x.cloud(0),
                () -> x.told(9));
    }

    private static void images() {
        FernHeirs x = Due.of("heir 9 7;heir 4 4;hears 0 1;");
        Due.same("no image", x.restore(), -1);
        String first = Due.morning(x);
        Due.same("one", x.image(), 1);
        Due.work(x, "crack 0;tap 0;hour;hour;fern 1 8;");
        String second = Due.morning(x);
        Due.same("two", x.image(), 2);
        Due.work(x, "dawn;lift 1;hour;");
        String third = Due.morning(x);
        Due.row("three", "3 -1 3", x::image, x::image, () -> x.count(0));
        Due.work(x, "lower 1;again 9[hour;];");
        Due.same("the third", x.restore(), 2);
        Due.asBefore("is as it was", third, Due.morning(x));
        Due.row("two of them again", "2 3 2", () -> x.count(0), x::image, x::restore);
        Due.same("the second", x.restore(), 1);
        Due.asBefore("is as it was", second, Due.morning(x));
        Due.same("the first", x.restore(), 0);
        Due.asBefore("is as it was", first, Due.morning(x));
        Due.row("no image is left", "-1 0", x::restore, () -> x.count(0));
    }

    private static void imagesOfWorks() {
        FernHeirs x = Due.of("heir 9 7;heir 4 4;");
        Due.work(x, "hour;");
        Due.work(x, "hour;");
        x.image();
        Due.row("undone, and others done", "1 0 1 2 1", x::undo, x::undo, () -> Due.work(x, "lift 0;"),
                () -> x.told(4), () -> x.count(2));
        Due.law(x, "1");
        Due.book(x, "1 1;");
        Due.feed(x, "xyz");
        Due.wrongArgument("a refusal", () -> x.told(99));
        Due.row("restored", "0 2 2", x::restore, () -> x.count(2), () -> x.told(3));
        Due.row("law, book, tape and refusals stay", "1 1 20 1", () -> x.cloud(0), () -> x.told(9), () -> x.count(1), () -> x.status(1));
        Due.row("its works can be undone", "1 1 0 0 -1", x::undo, () -> x.told(3), x::undo, () -> x.told(3), x::undo);
        Due.same("the tape is emptied", x.law(0), -9);
        Due.work(x, "hour;");
        Due.work(x, "hour;");
        Due.work(x, "hour;");
        x.image();
        Due.row("other works, as many", "2 1 0 1 1 1", x::undo, x::undo, x::undo, () -> Due.work(x, "crack 0;"),
                () -> Due.work(x, "crack 0;"), () -> Due.work(x, "crack 0;"));
        Due.row("the image has its own", "0 3 3 0 2 2 1 1 0 0", x::restore, () -> x.count(2), () -> x.told(3), () -> x.heir(0, 4),
                x::undo, () -> x.told(3), x::undo, () -> x.told(3), x::undo, () -> x.heir(0, 4));
        x.image();
        Due.court(x, "heir 1 1;");
        Due.row("a court forgets images", "0 -1", () -> x.count(0), x::restore);
        for (int i = 0; i < 16; i++) {
            Due.work(x, "hour;");
        }
        x.image();
        x.undo();
        Due.row("sixteen works restored", "0 16 16 15 15", x::restore, () -> x.count(2), () -> x.told(3), x::undo, () -> x.told(3));
    }

    private static void refusedSteps() {
        FernHeirs x = Due.of("heir 9 7;heir 4 4;");
        Due.same("ahead of any", x.told(10), 0);
        Due.row("refused", "0 2", () -> Due.work(x, "wipe 0;wipe 1;"), () -> x.told(10));
        Due.row("behind faults they stay", "-9 2 -9 2", () -> Due.work(x, "wipe"), () -> x.told(10), () -> Due.court(x, "x"),
                () -> x.told(10));
        Due.row("behind a law and a book, too", "1 0 2", () -> Due.law(x, "1"), () -> Due.book(x, ""), () -> x.told(10));
        Due.row("behind a restore of none, too", "-1 2", x::restore, () -> x.told(10));
        Due.row("behind an image, too", "1 2", x::image, () -> x.told(10));
        Due.row("not behind undo", "0 0", x::undo, () -> x.told(10));
        Due.row("not behind restore", "0 1 0 0", () -> Due.work(x, "wipe 0;"), () -> x.told(10), x::restore, () -> x.told(10));
        Due.row("not behind a court", "0 1 1 0", () -> Due.work(x, "wipe 0;"), () -> x.told(10), () -> Due.court(x, "heir 1 1;"),
                () -> x.told(10));
        Due.row("the latest work", "1 0", () -> Due.work(x, "hour;"), () -> x.told(10));
        for (int i = 0; i < 14; i++) {
            Due.work(x, "");
        }
        Due.row("behind a work too many they stay", "0 2 -20 2", () -> Due.work(x, "air 0;lower 0;"), () -> x.told(10),
                () -> Due.work(x, ""), () -> x.told(10));
    }

    private static void counted() {
        FernHeirs x = Due.of("heir 1 1;");
        Due.row("others", "-1 -1 -1 -1 -1", () -> x.count(3), () -> x.count(-1), () -> x.count(99), () -> x.status(2), () -> x.status(-1));
        x.feed(1, 2, 3, 4, 5);
        x.image();
        x.image();
        Due.row("counted", "2 20 0", () -> x.count(0), () -> x.count(1), () -> x.count(2));
    }

    private static void refused() {
        FernHeirs x = Due.of("heir 1 1;");
        Due.noSuch("heir 1 99", () -> x.heir(1, 99));
        Due.wrongArgument("heir 0 99", () -> x.heir(0, 99));
        Due.noSuch("two 0", () -> x.two(0, 0));
        Due.noSuch("gasp 5", () -> x.gasp(5));
        Due.wrongArgument("work 1", () -> x.work(1));
        Due.row("refused", "3 2", () -> x.status(0), () -> x.status(1));
        Due.row("no refusals", "-9 0 -1 -1", () -> Due.law(x, ""), x::fault, x::undo, x::restore);
        Due.court(x, "");
        Due.row("a court forgets none of them", "3 2", () -> x.status(0), () -> x.status(1));
    }
}
