/** Promise 10, its boundary cases: which pixels there are. */
public final class EdgesOfPixelTest {

    private static final Check CHECK = new Check("EdgesOfPixelTest");

    public static void main(String[] args) {
        CHECK.sentence("A pixel of a job's page (0, 1, ..), by 4 * row + column", EdgesOfPixelTest::everyPixel);
        CHECK.sentence("IndexOutOfBoundsException if there is none such", "pixel", EdgesOfPixelTest::noSuchPixel);
        CHECK.sentence("IndexOutOfBoundsException if there is none such", "page", EdgesOfPixelTest::noSuchPage);
        CHECK.sentence("IndexOutOfBoundsException if there is none such", "job", EdgesOfPixelTest::noSuchJob);
        CHECK.sentence("IndexOutOfBoundsException if there is none such", "numbers that wrap around",
            EdgesOfPixelTest::wrapArounds);
        CHECK.sentence("A pixel of a job's page", "of a job in any state", EdgesOfPixelTest::anyState);
        CHECK.sentence("A pixel of a job's page", "whatever is refused or stopped behind it",
            EdgesOfPixelTest::asItWas);
        CHECK.end();
    }

    private static void none(PrintHouse house, int number, int page, int at) {
        CHECK.isNone("pixel(" + number + ", " + page + ", " + at + ")", () -> house.pixel(number, page, at));
    }

    private static void everyPixel() {
        PrintHouse house = new PrintHouse();
        Request.print().end().data(Request.HALF_PAGE).data(Request.COUNT_PAGE).data(Request.ROW_PAGE).send(house);
        int[][] pages = {{7, 7, 8, 8, 7, 7, 8, 8, 7, 7, 8, 8}, {1, 2, 3, 4, 5, 6, 7, 8, 9, 10, 11, 12},
            {1, 2, 3, 4, 9, 9, 9, 9, 9, 9, 9, 9}};
        for (int page = 0; page < 3; page++) {
            for (int at = 0; at < 12; at++) {
                CHECK.due("pixel(1, " + page + ", " + at + ")", house.pixel(1, page, at), pages[page][at]);
            }
        }
    }

    private static void noSuchPixel() {
        PrintHouse house = new PrintHouse();
        Scene.busy(house);
        for (int at : new int[] {-1, 12, 13, 24, -12, 256, Integer.MIN_VALUE, Integer.MAX_VALUE}) {
            none(house, 3, 0, at);
            none(house, 3, 1, at);
            CHECK.leavesAll("pixel(3, 0, " + at + ")", Scene::busy, each -> Check.outcome(() -> each.pixel(3, 0, at)));
        }
        CHECK.due("pixel(3, 0, 0)", house.pixel(3, 0, 0), 1);
        CHECK.due("pixel(3, 0, 11)", house.pixel(3, 0, 11), 12);
    }

    private static void noSuchPage() {
        for (int pages = 1; pages <= 6; pages++) {
            PrintHouse house = new PrintHouse();
            Request.print().pages(6).send(house);
            Request.print().pages(pages).send(house);
            for (int page = 0; page < pages; page++) {
                CHECK.due("pixel(2, " + page + ", 11)", house.pixel(2, page, 11), page + 1);
            }
            for (int page : new int[] {pages, pages + 1, 6, 7, -1, -2, 256, Integer.MIN_VALUE, Integer.MAX_VALUE}) {
                none(house, 2, page, 0);
                none(house, 2, page, 11);
            }
        }
        CHECK.leavesAll("pixel(3, 2, 0)", Scene::busy, each -> Check.outcome(() -> each.pixel(3, 2, 0)));
    }

    private static void noSuchJob() {
        PrintHouse house = new PrintHouse();
        Scene.busy(house);
        for (int number : new int[] {0, 6, 7, 20, -1, -3, 259, Integer.MIN_VALUE, Integer.MAX_VALUE}) {
            none(house, number, 0, 0);
            CHECK.leavesAll("pixel(" + number + ", 0, 0)", Scene::busy,
                each -> Check.outcome(() -> each.pixel(number, 0, 0)));
        }
        PrintHouse empty = new PrintHouse();
        none(empty, 0, 0, 0);
        none(empty, 1, 0, 0);
        Request.print().pages(7).send(empty);
        none(empty, 1, 0, 0);
    }

    /** Twelve times the page, and the pixel, would be within the job's pixels if an int wraps around. */
    private static void wrapArounds() {
        PrintHouse house = new PrintHouse();
        Scene.busy(house);
        none(house, 3, 1 << 30, 0);
        none(house, 3, 1 << 31, 11);
        none(house, 3, 357913942, -8);
        none(house, 3, -1, 12);
        none(house, 3, 1, -1);
        none(house, 3, 2, -12);
        none(house, 3, 0, 23);
    }

    private static void anyState() {
        PrintHouse house = new PrintHouse();
        Scene.calm(house);
        int[] first = {1, 1, 1, 1, 1};
        for (int number = 1; number <= 5; number++) {
            CHECK.due("pixel(" + number + ", 0, 0)", house.pixel(number, 0, 0), first[number - 1]);
        }
        CHECK.due("pixel(2, 1, 11)", house.pixel(2, 1, 11), 2);
        CHECK.due("pixel(5, 1, 11)", house.pixel(5, 1, 11), 2);
    }

    private static void asItWas() {
        PrintHouse house = new PrintHouse();
        Request.print().word("sides", "short").end().data(Request.COUNT_PAGE).data(Request.COUNT_PAGE).send(house);
        Request.print().end().data(80, 2, 3, 99, 80).send(house);
        Request.print().pages(7).send(house);
        house.tick();
        house.stop(2);
        Request.print().pages(3).send(house);
        house.restart();
        Request.print().integer("up", 2).pages(2).send(house);
        house.tick();
        for (int at = 0; at < 12; at++) {
            CHECK.due("pixel(1, 0, " + at + ")", house.pixel(1, 0, at), at + 1);
            CHECK.due("pixel(1, 1, " + at + ")", house.pixel(1, 1, at), at + 1);
            CHECK.due("pixel(2, 1, " + at + ")", house.pixel(2, 1, at), 2);
        }
    }
}
