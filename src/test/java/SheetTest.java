/** Promise 6: sheet answers the bytes of the latest sheet that was sent. */
public final class SheetTest {

    private static final Check CHECK = new Check("SheetTest");

    public static void main(String[] args) {
        bytesThatAreNot();
        rowsAreWritten();
        equalRowsAreOne();
        upTwoIsTurned();
        upFourIsNot();
        twoSides();
        shortTurnsTheBack();
        aBookletOfOnePage();
        aBookletOfSixPages();
        aSheetStays();
        CHECK.end();
    }

    private static PrintHouse printed(Request request) {
        PrintHouse house = new PrintHouse();
        CHECK.due("PRINT", request.send(house), 0);
        return house;
    }

    private static void nextSheet(PrintHouse house, String what, String want) {
        CHECK.due(what + ": tick", house.tick(), 1);
        CHECK.due(what, Request.sheet(house), want);
    }

    private static void bytesThatAreNot() {
        PrintHouse house = new PrintHouse();
        CHECK.due("sheet(0)", house.sheet(0), PrintHouse.NONE);
        Request.print().pages(1).send(house);
        CHECK.due("sheet(0) before a tick", house.sheet(0), PrintHouse.NONE);
        nextSheet(house, "a page", "83 4 3 1 2 3 1");
        for (int k : new int[] {-1, 7, Integer.MIN_VALUE, Integer.MAX_VALUE}) {
            CHECK.due("sheet(" + k + ")", house.sheet(k), PrintHouse.NONE);
        }
    }

    /** How a page of three rows alike is written. */
    private static void row(int a, int b, int c, int d, String want) {
        PrintHouse house = printed(Request.print().end().data(80, 2, 253, a, b, c, d));
        nextSheet(house, "row " + a + " " + b + " " + c + " " + d, "83 4 3 1 2 " + want);
    }

    private static void rowsAreWritten() {
        row(1, 2, 3, 4, "253 1 2 3 4");
        row(1, 1, 1, 1, "3 1");
        row(1, 1, 2, 3, "1 1 255 2 3");
        row(1, 2, 2, 3, "0 1 1 2 0 3");
        row(1, 2, 3, 3, "255 1 2 1 3");
        row(1, 1, 2, 2, "1 1 1 2");
        row(1, 1, 1, 2, "2 1 0 2");
        row(1, 2, 2, 2, "0 1 2 2");
        row(1, 2, 1, 2, "253 1 2 1 2");
        row(0, 255, 255, 128, "0 0 1 255 0 128");
    }

    private static void equalRowsAreOne() {
        nextSheet(printed(Request.print().end().data(80, 0, 3, 1, 0, 3, 1, 0, 3, 1)), "three rows told one by one",
            "83 4 3 1 2 3 1");
        nextSheet(printed(Request.print().end().data(80, 0, 3, 1, 1, 0, 2, 2, 2)), "the last two alike",
            "83 4 3 1 0 3 1 1 3 2");
        nextSheet(printed(Request.print().end().data(80, 0, 3, 1, 0, 3, 2, 0, 3, 1)), "the outer two alike",
            "83 4 3 1 0 3 1 0 3 2 0 3 1");
        nextSheet(printed(Request.print().end().data(Request.ROW_PAGE)), "the first one alone",
            "83 4 3 1 0 253 1 2 3 4 1 3 9");
    }

    private static void upTwoIsTurned() {
        PrintHouse house = printed(Request.print().integer("up", 2).end().data(Request.COUNT_PAGE)
            .data(Request.HALF_PAGE).data(Request.COUNT_PAGE));
        nextSheet(house, "two pages", "83 6 4 1 0 254 9 5 1 2 7 0 254 10 6 2 2 7 0 254 11 7 3 2 8 0 254 12 8 4 2 8");
        nextSheet(house, "one page", "83 6 4 1 0 254 9 5 1 2 0 0 254 10 6 2 2 0 0 254 11 7 3 2 0 0 254 12 8 4 2 0");
        CHECK.due("tick()", house.tick(), 0);
    }

    private static void upFourIsNot() {
        PrintHouse house = printed(Request.print().integer("up", 4).end().data(Request.COUNT_PAGE)
            .data(Request.HALF_PAGE).data(Request.ROW_PAGE).data(Request.COUNT_PAGE).data(Request.HALF_PAGE));
        nextSheet(house, "four pages", "83 8 6 1"
            + " 0 253 1 2 3 4 1 7 1 8 0 253 5 6 7 8 1 7 1 8 0 253 9 10 11 12 1 7 1 8"
            + " 0 249 1 2 3 4 1 2 3 4 0 3 9 253 5 6 7 8 0 4 9 254 10 11 12");
        nextSheet(house, "a fifth one", "83 8 6 1 2 1 7 1 8 3 0 2 7 0");
        CHECK.due("tick()", house.tick(), 0);
    }

    private static void twoSides() {
        PrintHouse house = printed(Request.print().word("sides", "long").pages(3));
        nextSheet(house, "front and back", "83 4 3 2 2 3 1 2 3 2");
        nextSheet(house, "a back without a page", "83 4 3 2 2 3 3 2 3 0");
        CHECK.due("tick()", house.tick(), 0);
        PrintHouse up = printed(Request.print().word("sides", "long").integer("up", 2).pages(5));
        nextSheet(up, "up 2", "83 6 4 2 3 2 1 2 2 3 2 3 2 4");
        nextSheet(up, "up 2, a fifth one", "83 6 4 2 3 2 5 2 0 3 5 0");
        CHECK.due("tick()", up.tick(), 0);
    }

    private static void shortTurnsTheBack() {
        PrintHouse house = printed(Request.print().word("sides", "short").end().data(Request.COUNT_PAGE)
            .data(Request.COUNT_PAGE));
        nextSheet(house, "up 1", "83 4 3 2 0 253 1 2 3 4 0 253 5 6 7 8 0 253 9 10 11 12"
            + " 0 253 12 11 10 9 0 253 8 7 6 5 0 253 4 3 2 1");
        PrintHouse up = printed(Request.print().word("sides", "short").integer("up", 4).pages(6));
        nextSheet(up, "up 4", "83 8 6 2 2 3 1 3 2 2 3 3 3 4 2 7 0 2 3 6 3 5");
    }

    private static void aBookletOfOnePage() {
        for (String sides : new String[] {"one", "long", "short"}) {
            PrintHouse house = printed(Request.print().word("sides", sides).bool("booklet", 1).end()
                .data(Request.COUNT_PAGE));
            nextSheet(house, "a booklet, sides " + sides, "83 6 4 2 0 2 0 254 9 5 1 0 2 0 254 10 6 2"
                + " 0 2 0 254 11 7 3 0 2 0 254 12 8 4 3 5 0");
            CHECK.due("tick()", house.tick(), 0);
        }
    }

    private static void aBookletOfSixPages() {
        for (String sides : new String[] {"one", "long", "short"}) {
            PrintHouse house = printed(Request.print().bool("booklet", 1).word("sides", sides)
                .integer("copies", 2).pages(6));
            for (int copy = 0; copy < 2; copy++) {
                nextSheet(house, "the outer sheet", "83 6 4 2 3 2 0 2 1 3 2 2 2 0");
                nextSheet(house, "the inner sheet", "83 6 4 2 3 2 6 2 3 3 2 4 2 5");
            }
            CHECK.due("tick()", house.tick(), 0);
        }
    }

    private static void aSheetStays() {
        PrintHouse house = printed(Request.print().pages(1));
        nextSheet(house, "a page", "83 4 3 1 2 3 1");
        house.tick();
        Request.list().send(house);
        CHECK.due("behind a tick without one", Request.sheet(house), "83 4 3 1 2 3 1");
        house.stop(0);
        Request.print().pages(1).send(house);
        CHECK.due("while down", Request.sheet(house), "83 4 3 1 2 3 1");
        house.restart();
        CHECK.due("when up", Request.sheet(house), "83 4 3 1 2 3 1");
    }
}
