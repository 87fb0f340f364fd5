/** Terms, sides of sheets: up 1, 2 and 4, one side or two, cells left over, copies. */
public final class EdgesOfSidesTest {

    private static final Check CHECK = new Check("EdgesOfSidesTest");
    private static final Sheets SHEETS = new Sheets(CHECK);

    public static void main(String[] args) {
        CHECK.sentence("of up 1 one page as it is", EdgesOfSidesTest::upOne);
        CHECK.sentence("of 2 two pages, each turned a quarter clockwise (4 high, 3 wide), side by side: width "
            + "6, height 4",
            EdgesOfSidesTest::upTwo);
        CHECK.sentence("of 4 two rows of two pages: width 8, height 6", EdgesOfSidesTest::upFour);
        CHECK.sentence("Cells are filled row by row, from the left", EdgesOfSidesTest::cellsInOrder);
        CHECK.sentence("cells left over are pixels 0", "up 2", EdgesOfSidesTest::leftOverOfTwo);
        CHECK.sentence("cells left over are pixels 0", "up 4", EdgesOfSidesTest::leftOverOfFour);
        CHECK.sentence("Sides one: each side is a SHEET", EdgesOfSidesTest::oneSide);
        CHECK.sentence("Else two are: front and back", EdgesOfSidesTest::twoSides);
        CHECK.sentence("(a last one without a page is all 0)", EdgesOfSidesTest::aBackWithoutAPage);
        CHECK.sentence("with short the back is turned by a half", EdgesOfSidesTest::turnedByAHalf);
        CHECK.sentence("with short the back is turned by a half", "with its cells left over",
            EdgesOfSidesTest::turnedCells);
        CHECK.sentence("with short the back is turned by a half", "with long, and in front, it is not",
            EdgesOfSidesTest::notTurned);
        CHECK.sentence("All sheets in order, that copies times", EdgesOfSidesTest::copies);
        CHECK.sentence("83, width, height, how many sides (1, 2)", EdgesOfSidesTest::heads);
        CHECK.end();
    }

    private static Request up(int up, String sides) {
        return Request.print().integer("up", up).word("sides", sides);
    }

    private static void upOne() {
        SHEETS.due("the pixels 1 .. 12", up(1, "one").end().data(Request.COUNT_PAGE),
            "83 4 3 1 0 253 1 2 3 4 0 253 5 6 7 8 0 253 9 10 11 12");
    }

    private static void upTwo() {
        int[] more = Sheets.page(21, 22, 23, 24, 25, 26, 27, 28, 29, 30, 31, 32);
        SHEETS.due("the pixels 1 .. 12 and 21 .. 32", up(2, "one").end().data(Request.COUNT_PAGE).data(more),
            "83 6 4 1 0 251 9 5 1 29 25 21 0 251 10 6 2 30 26 22 0 251 11 7 3 31 27 23 0 251 12 8 4 32 28 24");
    }

    private static void upFour() {
        int[] more = Sheets.page(21, 22, 23, 24, 25, 26, 27, 28, 29, 30, 31, 32);
        SHEETS.due("the pixels 1 .. 12 and 21 .. 32", up(4, "one").end().data(Request.COUNT_PAGE).data(more)
            .data(more).data(Request.COUNT_PAGE),
            "83 8 6 1 0 249 1 2 3 4 21 22 23 24 0 249 5 6 7 8 25 26 27 28 0 249 9 10 11 12 29 30 31 32"
            + " 0 249 21 22 23 24 1 2 3 4 0 249 25 26 27 28 5 6 7 8 0 249 29 30 31 32 9 10 11 12");
    }

    private static void cellsInOrder() {
        SHEETS.due("up 2", up(2, "one").pages(2), "83 6 4 1 3 2 1 2 2");
        SHEETS.due("up 4", up(4, "one").pages(4), "83 8 6 1 2 3 1 3 2 2 3 3 3 4");
    }

    private static void leftOverOfTwo() {
        SHEETS.due("one page", up(2, "one").pages(1), "83 6 4 1 3 2 1 2 0");
        SHEETS.due("two pages", up(2, "one").pages(2), "83 6 4 1 3 2 1 2 2");
        SHEETS.due("three pages", up(2, "one").pages(3), "83 6 4 1 3 2 1 2 2", "83 6 4 1 3 2 3 2 0");
    }

    private static void leftOverOfFour() {
        String four = "83 8 6 1 2 3 1 3 2 2 3 3 3 4";
        SHEETS.due("one page", up(4, "one").pages(1), "83 8 6 1 2 3 1 3 0 2 7 0");
        SHEETS.due("two pages", up(4, "one").pages(2), "83 8 6 1 2 3 1 3 2 2 7 0");
        SHEETS.due("three pages", up(4, "one").pages(3), "83 8 6 1 2 3 1 3 2 2 3 3 3 0");
        SHEETS.due("four pages", up(4, "one").pages(4), four);
        SHEETS.due("five pages", up(4, "one").pages(5), four, "83 8 6 1 2 3 5 3 0 2 7 0");
        SHEETS.due("six pages", up(4, "one").pages(6), four, "83 8 6 1 2 3 5 3 6 2 7 0");
    }

    private static void oneSide() {
        SHEETS.due("six pages, up 1", up(1, "one").pages(6), "83 4 3 1 2 3 1", "83 4 3 1 2 3 2", "83 4 3 1 2 3 3",
            "83 4 3 1 2 3 4", "83 4 3 1 2 3 5", "83 4 3 1 2 3 6");
        SHEETS.due("six pages, up 2", up(2, "one").pages(6), "83 6 4 1 3 2 1 2 2", "83 6 4 1 3 2 3 2 4",
            "83 6 4 1 3 2 5 2 6");
    }

    private static void twoSides() {
        SHEETS.due("two pages, up 1", up(1, "long").pages(2), "83 4 3 2 2 3 1 2 3 2");
        SHEETS.due("four pages, up 1", up(1, "long").pages(4), "83 4 3 2 2 3 1 2 3 2", "83 4 3 2 2 3 3 2 3 4");
        SHEETS.due("four pages, up 2", up(2, "long").pages(4), "83 6 4 2 3 2 1 2 2 3 2 3 2 4");
        SHEETS.due("six pages, up 4", up(4, "long").pages(6), "83 8 6 2 2 3 1 3 2 2 3 3 3 4 2 3 5 3 6 2 7 0");
    }

    private static void aBackWithoutAPage() {
        for (String sides : new String[] {"long", "short"}) {
            SHEETS.due("one page, up 1, " + sides, up(1, sides).pages(1), "83 4 3 2 2 3 1 2 3 0");
            SHEETS.due("three pages, up 1, " + sides, up(1, sides).pages(3), "83 4 3 2 2 3 1 2 3 2", "83 4 3 2 2 3 3 2 3 0");
            SHEETS.due("one page, up 2, " + sides, up(2, sides).pages(1), "83 6 4 2 3 2 1 2 0 3 5 0");
            SHEETS.due("two pages, up 2, " + sides, up(2, sides).pages(2), "83 6 4 2 3 2 1 2 2 3 5 0");
            SHEETS.due("one page, up 4, " + sides, up(4, sides).pages(1), "83 8 6 2 2 3 1 3 0 2 7 0 5 7 0");
            SHEETS.due("four pages, up 4, " + sides, up(4, sides).pages(4), "83 8 6 2 2 3 1 3 2 2 3 3 3 4 5 7 0");
        }
        SHEETS.due("five pages, up 2, long", up(2, "long").pages(5), "83 6 4 2 3 2 1 2 2 3 2 3 2 4",
            "83 6 4 2 3 2 5 2 0 3 5 0");
    }

    private static void turnedByAHalf() {
        String front = "0 253 1 2 3 4 0 253 5 6 7 8 0 253 9 10 11 12";
        String back = "0 253 12 11 10 9 0 253 8 7 6 5 0 253 4 3 2 1";
        SHEETS.due("up 1", up(1, "short").end().data(Request.COUNT_PAGE).data(Request.COUNT_PAGE),
            "83 4 3 2 " + front + " " + back);
        int[] zero = Sheets.rows(0, 0, 0, 0);
        SHEETS.due("up 2", up(2, "short").end().data(zero).data(zero).data(Request.COUNT_PAGE).data(Request.HALF_PAGE),
            "83 6 4 2 3 5 0 0 2 8 254 4 8 12 0 2 8 254 3 7 11 0 2 7 254 2 6 10 0 2 7 254 1 5 9");
    }

    private static void turnedCells() {
        SHEETS.due("three pages, up 2", up(2, "short").pages(3), "83 6 4 2 3 2 1 2 2 3 2 0 2 3");
        SHEETS.due("five pages, up 4", up(4, "short").pages(5), "83 8 6 2 2 3 1 3 2 2 3 3 3 4 2 7 0 2 3 0 3 5");
        SHEETS.due("six pages, up 4", up(4, "short").pages(6), "83 8 6 2 2 3 1 3 2 2 3 3 3 4 2 7 0 2 3 6 3 5");
    }

    private static void notTurned() {
        String front = " 0 253 1 2 3 4 0 253 5 6 7 8 0 253 9 10 11 12";
        SHEETS.due("long", up(1, "long").end().data(Request.COUNT_PAGE).data(Request.COUNT_PAGE),
            "83 4 3 2" + front + front);
        SHEETS.due("short, fronts alone", up(1, "short").end().data(Request.COUNT_PAGE), "83 4 3 2" + front + " 2 3 0");
        Request three = up(1, "short").end().data(80, 2, 3, 1, 80, 2, 3, 2).data(Request.COUNT_PAGE);
        SHEETS.due("short, the second front", three, "83 4 3 2 2 3 1 2 3 2", "83 4 3 2" + front + " 2 3 0");
    }

    private static void copies() {
        String one = "83 4 3 1 2 3 1";
        String two = "83 4 3 1 2 3 2";
        SHEETS.due("1 copy", Request.print().integer("copies", 1).pages(2), one, two);
        SHEETS.due("2 copies", Request.print().integer("copies", 2).pages(2), one, two, one, two);
        SHEETS.due("3 copies", Request.print().integer("copies", 3).pages(2), one, two, one, two, one, two);
        SHEETS.due("3 copies of one page", Request.print().integer("copies", 3).pages(1), one, one, one);
        String front = "83 4 3 2 2 3 1 2 3 2";
        String last = "83 4 3 2 2 3 3 2 3 0";
        SHEETS.due("a copy begins with a new sheet", Request.print().integer("copies", 2).word("sides", "long").pages(3),
            front, last, front, last);
        SHEETS.due("a copy begins with a new side", Request.print().integer("copies", 2).integer("up", 4).pages(1),
            "83 8 6 1 2 3 1 3 0 2 7 0", "83 8 6 1 2 3 1 3 0 2 7 0");
        String[] most = new String[18];
        for (int i = 0; i < 18; i++) {
            most[i] = "83 4 3 1 2 3 " + (1 + i % 6);
        }
        SHEETS.due("the most sheets", Request.print().integer("copies", 3).pages(6), most);
    }

    private static void heads() {
        int[] ups = {1, 2, 4};
        String[] sizes = {"83 4 3", "83 6 4", "83 8 6"};
        String[] sides = {"one", "long", "short"};
        for (int i = 0; i < 3; i++) {
            for (int j = 0; j < 3; j++) {
                PrintHouse house = new PrintHouse();
                up(ups[i], sides[j]).pages(1).send(house);
                house.tick();
                String want = sizes[i] + (j == 0 ? " 1 " : " 2 ");
                CHECK.due("up " + ups[i] + ", " + sides[j], Request.sheet(house).substring(0, want.length()), want);
            }
        }
    }
}
