import java.util.Arrays;

/** Terms, rasters that are read: which data are pages (1041), and how many (1032). */
public final class EdgesOfDataTest {

    private static final Check CHECK = new Check("EdgesOfDataTest");

    public static void main(String[] args) {
        CHECK.sentence("1041 the data are not pages, at least one", EdgesOfDataTest::atLeastOne);
        CHECK.sentence("data are pages, each a byte 80 and a raster", EdgesOfDataTest::marks);
        CHECK.sentence("data are pages", "whole ones", EdgesOfDataTest::cuts);
        CHECK.sentence("a byte r, and RUNS of one row that stands r + 1 times in all", EdgesOfDataTest::rowsThatRepeat);
        CHECK.sentence("rows just at the height", EdgesOfDataTest::heights);
        CHECK.sentence("a byte c below 128 and a pixel that comes c + 1 times", EdgesOfDataTest::equalRuns);
        CHECK.sentence("or c above 128 and 257 - c pixels", EdgesOfDataTest::unlikeRuns);
        CHECK.sentence("128 is none", EdgesOfDataTest::noRun);
        CHECK.sentence("Runs end just at the width", EdgesOfDataTest::widths);
        CHECK.sentence("PIXELS are bytes", EdgesOfDataTest::pixels);
        CHECK.sentence("1032 there are more than six", EdgesOfDataTest::sixOrSeven);
        CHECK.sentence("1032 there are more than six", "nothing has changed, nor with 1041",
            EdgesOfDataTest::refusedDataChangeNothing);
        CHECK.end();
    }

    private static void refused(String what, int... data) {
        answered(what, 1041, data);
    }

    private static void answered(String what, int status, int... data) {
        PrintHouse house = new PrintHouse();
        CHECK.due(what, Request.print().end().data(data).send(house), status);
        CHECK.due(what + ": count(0)", house.count(0), 0);
        CHECK.due(what + ": count(3)", house.count(3), 0);
        CHECK.due(what + ": count(4)", house.count(4), 1);
        CHECK.due(what + ": count(6)", house.count(6), 0);
    }

    /** The pixels of the only page, twelve of them or four for three rows alike. */
    private static void taken(String what, int[] data, int... pixels) {
        PrintHouse house = new PrintHouse();
        CHECK.due(what, Request.print().end().data(data).send(house), 0);
        CHECK.due(what + ": pages", house.job(1, 6), 1);
        for (int at = 0; at < 12; at++) {
            CHECK.due(what + ": pixel(1, 0, " + at + ")", house.pixel(1, 0, at), pixels[at % pixels.length]);
        }
    }

    private static int[] data(int... bytes) {
        return bytes;
    }

    private static void atLeastOne() {
        refused("no data");
        PrintHouse house = new PrintHouse();
        CHECK.due("no data and no second group", Request.of(Request.PRINT, 0).end().send(house), 1041);
        taken("one page", data(80, 2, 3, 1), 1);
    }

    private static void marks() {
        for (int mark : new int[] {0, 79, 81, 83, 208, 255}) {
            refused("mark " + mark, mark, 2, 3, 1);
            refused("mark " + mark + " of the second page", 80, 2, 3, 1, mark, 2, 3, 1);
        }
        refused("no mark", 2, 3, 1);
        refused("the mark twice", 80, 80, 2, 3, 1);
        refused("no mark of the second page", 80, 2, 3, 1, 2, 3, 1);
        taken("mark 80 and pixels 80", data(80, 2, 3, 80), 80);
    }

    private static void cuts() {
        int[] two = Request.raw(Request.COUNT_PAGE).data(80, 0, 255, 1, 2, 1, 3, 1, 3, 7).bytes();
        for (int length = 0; length < two.length; length++) {
            if (length != Request.COUNT_PAGE.length) {
                refused("two pages cut at " + length, Arrays.copyOf(two, length));
            }
        }
        PrintHouse house = new PrintHouse();
        CHECK.due("two pages", Request.print().end().data(two).send(house), 0);
        CHECK.due("two pages: job(1, 6)", house.job(1, 6), 2);
        CHECK.due("two pages: pixel(1, 1, 0)", house.pixel(1, 1, 0), 1);
        CHECK.due("two pages: pixel(1, 1, 11)", house.pixel(1, 1, 11), 7);
        refused("two pages and a byte", Request.raw(two).data(0).bytes());
        refused("two pages and a mark", Request.raw(two).data(80).bytes());
    }

    private static void rowsThatRepeat() {
        taken("r 2", data(80, 2, 253, 1, 2, 3, 4), 1, 2, 3, 4);
        taken("r 1, 0", data(80, 1, 3, 1, 0, 3, 2), 1, 1, 1, 1, 1, 1, 1, 1, 2, 2, 2, 2);
        taken("r 0, 1", data(80, 0, 3, 1, 1, 3, 2), 1, 1, 1, 1, 2, 2, 2, 2, 2, 2, 2, 2);
        taken("r 0, 0, 0", data(80, 0, 3, 1, 0, 3, 2, 0, 3, 3), 1, 1, 1, 1, 2, 2, 2, 2, 3, 3, 3, 3);
        taken("r 0, 0, 0, rows alike", data(80, 0, 3, 1, 0, 3, 1, 0, 3, 1), 1);
        taken("r 0, 1, rows alike", data(80, 0, 3, 1, 1, 3, 1), 1);
    }

    private static void heights() {
        refused("r 3", 80, 3, 3, 1);
        refused("r 4", 80, 4, 3, 1);
        refused("r 127", 80, 127, 3, 1);
        refused("r 128", 80, 128, 3, 1);
        refused("r 254", 80, 254, 3, 1);
        refused("r 255", 80, 255, 3, 1);
        refused("r 0", 80, 0, 3, 1);
        refused("r 1", 80, 1, 3, 1);
        refused("r 0, 0", 80, 0, 3, 1, 0, 3, 1);
        refused("r 0, 2", 80, 0, 3, 1, 2, 3, 1);
        refused("r 1, 1", 80, 1, 3, 1, 1, 3, 1);
        refused("r 1, 255", 80, 1, 3, 1, 255, 3, 1);
        refused("r 0, 0, 1", 80, 0, 3, 1, 0, 3, 1, 1, 3, 1);
        refused("r 2, 0", 80, 2, 3, 1, 0, 3, 1);
        refused("r 0, 0, 0, 0", 80, 0, 3, 1, 0, 3, 1, 0, 3, 1, 0, 3, 1);
        refused("r 1, then a page", 80, 1, 3, 1, 80, 2, 3, 1);
    }

    private static void equalRuns() {
        taken("c 0 four times", data(80, 2, 0, 1, 0, 2, 0, 3, 0, 4), 1, 2, 3, 4);
        taken("c 0 four times, alike", data(80, 2, 0, 1, 0, 1, 0, 1, 0, 1), 1);
        taken("c 1 twice", data(80, 2, 1, 1, 1, 2), 1, 1, 2, 2);
        taken("c 2, 0", data(80, 2, 2, 1, 0, 2), 1, 1, 1, 2);
        taken("c 0, 2", data(80, 2, 0, 1, 2, 2), 1, 2, 2, 2);
        taken("c 3", data(80, 2, 3, 1), 1);
        refused("c 4", 80, 2, 4, 1);
        refused("c 127", 80, 2, 127, 1);
        refused("c 3 without a pixel", 80, 2, 3);
    }

    private static void unlikeRuns() {
        taken("c 253", data(80, 2, 253, 1, 2, 3, 4), 1, 2, 3, 4);
        taken("c 253, all alike", data(80, 2, 253, 5, 5, 5, 5), 5);
        taken("c 254, 0", data(80, 2, 254, 1, 2, 3, 0, 4), 1, 2, 3, 4);
        taken("c 0, 254", data(80, 2, 0, 1, 254, 2, 3, 4), 1, 2, 3, 4);
        taken("c 255, 255", data(80, 2, 255, 1, 2, 255, 3, 4), 1, 2, 3, 4);
        taken("c 1, 255", data(80, 2, 1, 1, 255, 3, 4), 1, 1, 3, 4);
        taken("c 255, 1", data(80, 2, 255, 1, 2, 1, 3), 1, 2, 3, 3);
        refused("c 252", 80, 2, 252, 1, 2, 3, 4, 5);
        refused("c 252 with four", 80, 2, 252, 1, 2, 3, 4);
        refused("c 253 with three", 80, 2, 253, 1, 2, 3);
        refused("c 253 with none", 80, 2, 253);
        refused("c 129", Request.raw(80, 2, 129).data(new int[128]).bytes());
        refused("c 129 with four", 80, 2, 129, 1, 2, 3, 4);
    }

    private static void noRun() {
        refused("c 128", 80, 2, 128);
        refused("c 128 and a pixel", 80, 2, 128, 1);
        refused("c 128 before a run", 80, 2, 128, 3, 1);
        refused("c 128 behind a run", 80, 2, 1, 1, 128, 1, 1);
        refused("c 128 behind a row", 80, 2, 3, 1, 128);
        refused("c 128 and a pixel before a run of four", 80, 2, 128, 1, 3, 1);
        refused("c 128 and a pixel before a run of three", 80, 2, 128, 1, 2, 1);
        refused("c 128 and a pixel behind a run of three", 80, 2, 2, 1, 128, 1);
        refused("c 128 and a pixel before three unlike", 80, 2, 128, 1, 254, 2, 3, 4);
        refused("c 128 and a pixel four times", 80, 2, 128, 1, 128, 2, 128, 3, 128, 4);
        refused("c 128 and four pixels", 80, 2, 128, 1, 2, 3, 4);
        refused("c 128 between two runs", 80, 2, 1, 1, 128, 1, 2);
        refused("c 128 and 129 pixels", Request.raw(80, 2, 128).data(new int[129]).bytes());
        taken("pixel 128", data(80, 2, 3, 128), 128);
    }

    private static void widths() {
        refused("1 and 3 equal", 80, 2, 0, 1, 3, 1);
        refused("3 and 2 equal", 80, 2, 2, 1, 1, 1);
        refused("3 and 2 unlike", 80, 2, 254, 1, 2, 3, 255, 4, 5);
        refused("2 and 3 unlike", 80, 2, 255, 1, 2, 254, 3, 4, 5);
        refused("3 equal and 2 unlike", 80, 2, 2, 1, 255, 4, 5);
        refused("3 and no more", 80, 2, 2, 1);
        refused("3 unlike and no more", 80, 2, 254, 1, 2, 3);
        refused("5 in five runs", 80, 2, 0, 1, 0, 1, 0, 1, 0, 1, 0, 1);
        refused("a row of 3, then rows of 4", 80, 0, 2, 1, 1, 3, 1);
        refused("rows of 4, then a row of 5", 80, 1, 3, 1, 0, 4, 1);
        refused("a run over the end of a row", 80, 0, 7, 1, 0, 3, 1);
    }

    private static void pixels() {
        for (int pixel : new int[] {0, 1, 127, 128, 129, 254, 255}) {
            taken("pixel " + pixel + " in a run", data(80, 2, 3, pixel), pixel);
            taken("pixel " + pixel + " as it is", data(80, 2, 253, 9, pixel, 8, pixel), 9, pixel, 8, pixel);
        }
    }

    private static void sixOrSeven() {
        for (int pages = 1; pages <= 6; pages++) {
            PrintHouse house = new PrintHouse();
            CHECK.due(pages + " pages", Request.print().pages(pages).send(house), 0);
            CHECK.due(pages + " pages: job(1, 6)", house.job(1, 6), pages);
            CHECK.due(pages + " pages: count(0)", house.count(0), 1 + pages);
        }
        for (int pages : new int[] {7, 8, 12, 57}) {
            int[] data = new Request().pages(pages).bytes();
            answered(pages + " pages", 1032, Arrays.copyOfRange(data, 1, data.length));
        }
    }

    private static void refusedDataChangeNothing() {
        Request none = Request.print().end();
        Request cut = Request.print().bool("hold", 1).end().data(80, 2, 3, 99, 80, 2, 3);
        Request seven = Request.print().integer("copies", 3).pages(7);
        CHECK.leavesHouse("no data", Scene::calm, none::send);
        CHECK.leavesHouse("a cut page", Scene::calm, cut::send);
        CHECK.leavesHouse("seven pages", Scene::calm, seven::send);
    }
}
