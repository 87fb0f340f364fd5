/** Terms, a BOOKLET: of one page to six, whatever sides is. */
public final class EdgesOfBookletTest {

    private static final Check CHECK = new Check("EdgesOfBookletTest");
    private static final Sheets SHEETS = new Sheets(CHECK);

    public static void main(String[] args) {
        CHECK.sentence("s = p / 4 rounded up sheets", EdgesOfBookletTest::howManySheets);
        CHECK.sentence("has in front the pages n - 2k and 2k + 1 (counted from 1), on the back 2k + 2 and n - 2k - 1",
            EdgesOfBookletTest::whichPages);
        CHECK.sentence("there is no page above p: 0", EdgesOfBookletTest::noPageAbove);
        CHECK.sentence("whatever sides is", EdgesOfBookletTest::whateverSidesIs);
        CHECK.sentence("up 1 or not told", EdgesOfBookletTest::upOneOrNotTold);
        CHECK.sentence("cells as with up 2", EdgesOfBookletTest::cellsAreTurned);
        CHECK.sentence("All sheets in order, that copies times", EdgesOfBookletTest::copies);
        CHECK.sentence("booklet (0)", "none", EdgesOfBookletTest::noBooklet);
        CHECK.end();
    }

    private static Request booklet() {
        return Request.print().bool("booklet", 1);
    }

    /** A side of two pages, each all of one pixel. */
    private static String side(int left, int right) {
        return left == right ? " 3 5 " + left : " 3 2 " + left + " 2 " + right;
    }

    private static String sheet(int a, int b, int c, int d) {
        return "83 6 4 2" + side(a, b) + side(c, d);
    }

    private static void howManySheets() {
        int[] sheets = {1, 1, 1, 1, 2, 2};
        for (int pages = 1; pages <= 6; pages++) {
            for (int copies = 1; copies <= 3; copies++) {
                PrintHouse house = new PrintHouse();
                booklet().integer("copies", copies).pages(pages).send(house);
                CHECK.due(pages + " pages, " + copies + " copies", house.job(1, 8), copies * sheets[pages - 1]);
            }
        }
    }

    private static void whichPages() {
        SHEETS.due("four pages", booklet().pages(4), sheet(4, 1, 2, 3));
        SHEETS.due("six pages", booklet().pages(6), sheet(0, 1, 2, 0), sheet(6, 3, 4, 5));
    }

    private static void noPageAbove() {
        SHEETS.due("one page", booklet().pages(1), sheet(0, 1, 0, 0));
        SHEETS.due("two pages", booklet().pages(2), sheet(0, 1, 2, 0));
        SHEETS.due("three pages", booklet().pages(3), sheet(0, 1, 2, 3));
        SHEETS.due("five pages", booklet().pages(5), sheet(0, 1, 2, 0), sheet(0, 3, 4, 5));
    }

    private static void whateverSidesIs() {
        for (String sides : new String[] {"one", "long", "short"}) {
            SHEETS.due("three pages, " + sides, booklet().word("sides", sides).pages(3), sheet(0, 1, 2, 3));
            SHEETS.due("five pages, " + sides, Request.print().word("sides", sides).bool("booklet", 1).pages(5),
                sheet(0, 1, 2, 0), sheet(0, 3, 4, 5));
            PrintHouse house = new PrintHouse();
            booklet().word("sides", sides).pages(1).send(house);
            CHECK.due("job(1, 4), " + sides, house.job(1, 4), sides.equals("one") ? 0 : sides.equals("long") ? 1 : 2);
        }
    }

    private static void upOneOrNotTold() {
        SHEETS.due("up 1", booklet().integer("up", 1).pages(4), sheet(4, 1, 2, 3));
        SHEETS.due("up not told", booklet().pages(4), sheet(4, 1, 2, 3));
    }

    private static void cellsAreTurned() {
        SHEETS.due("the page of 1 .. 12", booklet().end().data(Request.COUNT_PAGE),
            "83 6 4 2 0 2 0 254 9 5 1 0 2 0 254 10 6 2 0 2 0 254 11 7 3 0 2 0 254 12 8 4 3 5 0");
        for (String sides : new String[] {"one", "long", "short"}) {
            Request print = booklet().word("sides", sides).end().data(80, 2, 3, 0).data(Request.COUNT_PAGE)
                .data(Request.HALF_PAGE);
            SHEETS.due("on the back, " + sides, print,
                "83 6 4 2 3 5 0 0 254 9 5 1 2 7 0 254 10 6 2 2 7 0 254 11 7 3 2 8 0 254 12 8 4 2 8");
        }
    }

    private static void copies() {
        String outer = sheet(0, 1, 2, 0);
        String inner = sheet(6, 3, 4, 5);
        SHEETS.due("three copies", booklet().integer("copies", 3).pages(6), outer, inner, outer, inner, outer, inner);
    }

    private static void noBooklet() {
        SHEETS.due("booklet 0", Request.print().bool("booklet", 0).pages(2), "83 4 3 1 2 3 1", "83 4 3 1 2 3 2");
        SHEETS.due("booklet 0, up 2", Request.print().bool("booklet", 0).integer("up", 2).pages(2), "83 6 4 1 3 2 1 2 2");
    }
}
