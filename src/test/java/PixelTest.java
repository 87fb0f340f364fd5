/** Promise 10: pixel answers the pixels of a job's pages. */
public final class PixelTest {

    private static final Check CHECK = new Check("PixelTest");

    public static void main(String[] args) {
        rastersAreRead();
        sixPages();
        whatIsNot();
        aRefusedRequestLeavesThem();
        CHECK.end();
    }

    private static void page(int[] data, int... want) {
        PrintHouse house = new PrintHouse();
        CHECK.due("PRINT", Request.print().end().data(data).send(house), 0);
        for (int at = 0; at < 12; at++) {
            CHECK.due("pixel(1, 0, " + at + ")", house.pixel(1, 0, at), want[at]);
        }
    }

    private static void rastersAreRead() {
        page(Request.COUNT_PAGE, 1, 2, 3, 4, 5, 6, 7, 8, 9, 10, 11, 12);
        page(Request.ROW_PAGE, 1, 2, 3, 4, 9, 9, 9, 9, 9, 9, 9, 9);
        page(Request.HALF_PAGE, 7, 7, 8, 8, 7, 7, 8, 8, 7, 7, 8, 8);
        page(new int[] {80, 1, 0, 255, 254, 0, 128, 3, 0, 255, 80, 83, 1, 2}, 255, 0, 128, 3, 255, 0, 128, 3, 80, 83, 2, 2);
        page(new int[] {80, 0, 2, 5, 0, 6, 0, 0, 7, 2, 8, 0, 1, 3, 255, 1, 2}, 5, 5, 5, 6, 7, 8, 8, 8, 3, 3, 1, 2);
    }

    private static void sixPages() {
        PrintHouse house = new PrintHouse();
        Request.print().pages(2).send(house);
        Request.print().pages(6).send(house);
        for (int page = 0; page < 6; page++) {
            for (int at = 0; at < 12; at++) {
                CHECK.due("pixel(2, " + page + ", " + at + ")", house.pixel(2, page, at), page + 1);
            }
        }
        CHECK.due("pixel(1, 1, 11)", house.pixel(1, 1, 11), 2);
        CHECK.isNone("pixel(1, 2, 0)", () -> house.pixel(1, 2, 0));
        CHECK.isNone("pixel(2, 6, 0)", () -> house.pixel(2, 6, 0));
    }

    private static void whatIsNot() {
        PrintHouse house = new PrintHouse();
        Request.print().pages(1).send(house);
        for (int wrong : new int[] {-1, 12, Integer.MIN_VALUE, Integer.MAX_VALUE}) {
            CHECK.isNone("pixel(" + wrong + ", 0, 0)", () -> house.pixel(wrong, 0, 0));
            CHECK.isNone("pixel(1, " + wrong + ", 0)", () -> house.pixel(1, wrong, 0));
            CHECK.isNone("pixel(1, 0, " + wrong + ")", () -> house.pixel(1, 0, wrong));
        }
        house.stop(0);
        house.tick();
        CHECK.isDown("pixel(1, 0, 0)", () -> house.pixel(1, 0, 0));
        CHECK.isDown("pixel(1, 9, 0)", () -> house.pixel(1, 9, 0));
        house.restart();
        CHECK.due("pixel(1, 0, 0)", house.pixel(1, 0, 0), 1);
    }

    private static void aRefusedRequestLeavesThem() {
        PrintHouse house = new PrintHouse();
        Request.print().end().data(Request.COUNT_PAGE).send(house);
        Request.print().pages(7).send(house);
        Request.print().end().data(80, 2, 3, 9, 80).send(house);
        Request.ofJob(Request.CANCEL, 1).send(house);
        for (int at = 0; at < 12; at++) {
            CHECK.due("pixel(1, 0, " + at + ")", house.pixel(1, 0, at), at + 1);
        }
    }
}
