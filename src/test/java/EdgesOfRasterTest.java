/** Terms, rasters that are written: equal rows, equal pixels, and those as they are. */
public final class EdgesOfRasterTest {

    private static final Check CHECK = new Check("EdgesOfRasterTest");
    private static final Sheets SHEETS = new Sheets(CHECK);

    public static void main(String[] args) {
        CHECK.sentence("if the pixel is the same as the next one, all that are the same in a run",
            EdgesOfRasterTest::equalPixels);
        CHECK.sentence("else all pixels up to the next two that are the same", EdgesOfRasterTest::upToTheNextTwo);
        CHECK.sentence("(or the end)", EdgesOfRasterTest::upToTheEnd);
        CHECK.sentence("if that is one, 0 and it, else as they are", EdgesOfRasterTest::oneAlone);
        CHECK.sentence("of a row, from the left", "all rows of four pixels of four kinds", EdgesOfRasterTest::everyRow);
        CHECK.sentence("equal rows that follow one another are one (all of them at once)",
            EdgesOfRasterTest::equalRows);
        CHECK.sentence("equal rows that follow one another are one (all of them at once)", "others are not",
            EdgesOfRasterTest::rowsApart);
        CHECK.sentence("of a row, from the left", "rows of six and of eight pixels", EdgesOfRasterTest::longRows);
        CHECK.sentence("equal rows that follow one another are one (all of them at "
            + "once)", "rows of six and of eight pixels",
            EdgesOfRasterTest::highSides);
        CHECK.sentence("the raster of the front written, that of the back", "each for itself",
            EdgesOfRasterTest::sidesAreApart);
        CHECK.sentence("PIXELS are bytes", EdgesOfRasterTest::pixels);
        CHECK.sentence("As bytes a sheet is", "the longest", EdgesOfRasterTest::theLongestSheet);
        CHECK.end();
    }

    private static void row(int a, int b, int c, int d, String want) {
        SHEETS.due("row " + a + " " + b + " " + c + " " + d, Request.print().end().data(Sheets.rows(a, b, c, d)),
            "83 4 3 1 2 " + want);
    }

    private static void equalPixels() {
        row(1, 1, 1, 1, "3 1");
        row(1, 1, 1, 2, "2 1 0 2");
        row(1, 1, 2, 2, "1 1 1 2");
        row(1, 1, 2, 1, "1 1 255 2 1");
        row(0, 0, 0, 0, "3 0");
    }

    private static void upToTheNextTwo() {
        row(1, 2, 2, 2, "0 1 2 2");
        row(1, 2, 2, 3, "0 1 1 2 0 3");
        row(1, 2, 3, 3, "255 1 2 1 3");
        row(2, 1, 2, 2, "255 2 1 1 2");
    }

    private static void upToTheEnd() {
        row(1, 2, 3, 4, "253 1 2 3 4");
        row(1, 2, 1, 2, "253 1 2 1 2");
        row(1, 2, 3, 1, "253 1 2 3 1");
        row(1, 1, 2, 3, "1 1 255 2 3");
    }

    private static void oneAlone() {
        row(1, 1, 1, 2, "2 1 0 2");
        row(2, 1, 1, 1, "0 2 2 1");
        row(1, 2, 2, 1, "0 1 1 2 0 1");
        row(1, 1, 2, 3, "1 1 255 2 3");
        row(2, 3, 1, 1, "255 2 3 1 1");
    }

    private static void everyRow() {
        for (int kinds = 0; kinds < 256; kinds++) {
            int[] row = {kinds & 3, kinds >> 2 & 3, kinds >> 4 & 3, kinds >> 6};
            PrintHouse house = new PrintHouse();
            Request.print().end().data(Sheets.rows(row[0], row[1], row[2], row[3])).send(house);
            house.tick();
            CHECK.due("row " + kinds, Request.sheet(house), "83 4 3 1 2" + written(row));
        }
    }

    private static String written(int[] row) {
        StringBuilder text = new StringBuilder();
        int at = 0;
        while (at < row.length) {
            int start = at;
            at++;
            if (isPair(row, start)) {
                while (at < row.length && row[at] == row[start]) {
                    at++;
                }
                text.append(' ').append(at - start - 1).append(' ').append(row[start]);
                continue;
            }
            while (at < row.length && !isPair(row, at)) {
                at++;
            }
            text.append(' ').append(at - start == 1 ? 0 : 257 - (at - start));
            for (int i = start; i < at; i++) {
                text.append(' ').append(row[i]);
            }
        }
        return text.toString();
    }

    private static boolean isPair(int[] row, int at) {
        return at + 1 < row.length && row[at] == row[at + 1];
    }

    private static void page(String what, String want, int... pixels) {
        SHEETS.due(what, Request.print().end().data(Sheets.page(pixels)), "83 4 3 1 " + want);
    }

    private static void equalRows() {
        page("three alike", "2 3 1", 1, 1, 1, 1, 1, 1, 1, 1, 1, 1, 1, 1);
        page("three alike, not of one pixel", "2 253 1 2 3 4", 1, 2, 3, 4, 1, 2, 3, 4, 1, 2, 3, 4);
        page("the first two alike", "1 3 1 0 3 2", 1, 1, 1, 1, 1, 1, 1, 1, 2, 2, 2, 2);
        page("the last two alike", "0 3 1 1 3 2", 1, 1, 1, 1, 2, 2, 2, 2, 2, 2, 2, 2);
    }

    private static void rowsApart() {
        page("none alike", "0 3 1 0 3 2 0 3 3", 1, 1, 1, 1, 2, 2, 2, 2, 3, 3, 3, 3);
        page("the outer two alike", "0 3 1 0 3 2 0 3 1", 1, 1, 1, 1, 2, 2, 2, 2, 1, 1, 1, 1);
        page("unlike in the last pixel", "0 3 1 0 2 1 0 2 0 3 1", 1, 1, 1, 1, 1, 1, 1, 2, 1, 1, 1, 1);
        page("unlike in the first pixel", "0 3 1 1 0 2 2 1", 1, 1, 1, 1, 2, 1, 1, 1, 2, 1, 1, 1);
    }

    private static void longRows() {
        Request six = Request.print().integer("up", 2).end().data(Sheets.rows(1, 1, 1, 1)).data(Sheets.rows(1, 1, 1, 1));
        SHEETS.due("six alike", six, "83 6 4 1 3 5 1");
        Request unlike = Request.print().integer("up", 2).end()
            .data(Sheets.page(3, 3, 3, 3, 2, 2, 2, 2, 1, 1, 1, 1)).data(Sheets.page(6, 6, 6, 6, 5, 5, 5, 5, 4, 4, 4, 4));
        SHEETS.due("six unlike", unlike, "83 6 4 1 3 251 1 2 3 4 5 6");
        Request over = Request.print().integer("up", 2).end()
            .data(Sheets.page(3, 3, 3, 3, 2, 2, 2, 2, 1, 1, 1, 1)).data(Sheets.page(5, 5, 5, 5, 3, 3, 3, 3, 3, 3, 3, 3));
        SHEETS.due("three alike over the cells' edge", over, "83 6 4 1 3 255 1 2 2 3 0 5");
        Request eight = Request.print().integer("up", 4).end().data(Sheets.rows(1, 2, 3, 4)).data(Sheets.rows(5, 6, 7, 8));
        SHEETS.due("eight unlike", eight, "83 8 6 1 2 249 1 2 3 4 5 6 7 8 2 7 0");
        Request pairs = Request.print().integer("up", 4).end().data(Sheets.rows(1, 2, 2, 3)).data(Sheets.rows(3, 4, 5, 5));
        SHEETS.due("pairs among others", pairs, "83 8 6 1 2 0 1 1 2 1 3 0 4 1 5 2 7 0");
    }

    private static void highSides() {
        Request six = Request.print().integer("up", 4).end();
        for (int i = 0; i < 4; i++) {
            six.data(Sheets.rows(7, 7, 7, 7));
        }
        SHEETS.due("six rows alike", six, "83 8 6 1 5 7 7");
        Request five = Request.print().integer("up", 4).end().data(Sheets.page(1, 1, 1, 1, 2, 2, 2, 2, 2, 2, 2, 2))
            .data(Sheets.page(1, 1, 1, 1, 2, 2, 2, 2, 2, 2, 2, 2)).data(Sheets.rows(2, 2, 2, 2)).data(Sheets.rows(2, 2, 2, 2));
        SHEETS.due("five rows alike over the cells' edge", five, "83 8 6 1 0 7 1 4 7 2");
        Request four = Request.print().integer("up", 2).end().data(Sheets.rows(1, 2, 2, 3)).data(Sheets.rows(1, 2, 2, 3));
        SHEETS.due("two of four rows alike", four, "83 6 4 1 0 5 1 1 5 2 0 5 3");
    }

    private static void sidesAreApart() {
        SHEETS.due("front and back alike", Request.print().word("sides", "long").end().data(Sheets.rows(1, 1, 1, 1))
            .data(Sheets.rows(1, 1, 1, 1)), "83 4 3 2 2 3 1 2 3 1");
        SHEETS.due("the front's last row and the back alike", Request.print().word("sides", "long").end()
            .data(Sheets.page(2, 2, 2, 2, 1, 1, 1, 1, 1, 1, 1, 1)).data(Sheets.rows(1, 1, 1, 1)),
            "83 4 3 2 0 3 2 1 3 1 2 3 1");
    }

    private static void pixels() {
        row(255, 254, 129, 128, "253 255 254 129 128");
        row(255, 255, 0, 0, "1 255 1 0");
        row(128, 128, 128, 0, "2 128 0 0");
        row(127, 255, 255, 255, "0 127 2 255");
    }

    /** Nine rows with pixels alone among pairs, none like the next, and a last one of zeros. */
    private static void theLongestSheet() {
        Request print = Request.print().integer("up", 4).word("sides", "long").end();
        for (int i = 0; i < 6; i++) {
            print.data(Sheets.page(1, 2, 2, 3, 4, 5, 5, 6, 7, 8, 8, 9));
        }
        String rows = " 0 0 1 1 2 255 3 1 1 2 0 3 0 0 4 1 5 255 6 4 1 5 0 6 0 0 7 1 8 255 9 7 1 8 0 9";
        SHEETS.due("six pages on one sheet", print, "83 8 6 2" + rows + rows + rows + " 2 7 0");
    }
}
