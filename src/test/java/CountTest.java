/** Promise 11: count tells the house's numbers, up or down. */
public final class CountTest {

    private static final Check CHECK = new Check("CountTest");

    public static void main(String[] args) {
        whatIsNot();
        theCountsOfARun();
        aLogOfFortyIsNotMadeAnew();
        jobsThatHaveEndedAreForgotten();
        CHECK.end();
    }

    private static void counts(String when, PrintHouse house, int... want) {
        for (int what = 0; what < want.length; what++) {
            CHECK.due(when + ": count(" + what + ")", house.count(what), want[what]);
        }
    }

    private static void whatIsNot() {
        PrintHouse house = new PrintHouse();
        for (int what : new int[] {-1, 7, 8, Integer.MIN_VALUE, Integer.MAX_VALUE}) {
            CHECK.due("count(" + what + ")", house.count(what), PrintHouse.NONE);
        }
    }

    private static void theCountsOfARun() {
        PrintHouse house = new PrintHouse();
        Request.print().pages(2).send(house);
        counts("a job", house, 3, 3, 0, 1, 2, 1, 0);
        house.tick();
        counts("its first sheet", house, 4, 4, 1, 1, 2, 1, 0);
        house.tick();
        counts("its last sheet", house, 5, 5, 2, 1, 2, 1, 0);
        house.put(1, 5);
        house.tick();
        counts("a tick without one", house, 5, 5, 2, 1, 2, 1, 5);
        house.request();
        Request.print().pages(7).send(house);
        counts("what is refused", house, 5, 5, 2, 1, 2, 1, 0);
        house.stop(2);
        Request.print().pages(2).send(house);
        counts("a stop", house, 7, 5, 2, 1, 2, 0, 0);
        house.put(1, 8);
        counts("a draft while down", house, 7, 5, 2, 1, 2, 0, 8);
        house.restart();
        counts("a restart", house, 7, 5, 2, 1, 2, 1, 8);
    }

    private static void aLogOfFortyIsNotMadeAnew() {
        PrintHouse house = new PrintHouse();
        for (int i = 0; i < 5; i++) {
            Request.print().pages(6).send(house);
        }
        Request.ofJob(Request.CANCEL, 1).send(house);
        Request.print().pages(3).send(house);
        counts("a log of forty", house, 40, 40, 0, 6, 7, 1, 0);
        Request.ofJob(Request.CANCEL, 2).send(house);
        counts("a block more", house, 40 + 32 + 1 + 1, 33, 0, 5, 7, 1, 0);
        CHECK.due("job(2, 0)", house.job(2, 0), 7);
        CHECK.isNone("job(1, 0)", () -> house.job(1, 0));
    }

    /** The most jobs that can be known are nineteen: a log of forty, each with two blocks or more. */
    private static void jobsThatHaveEndedAreForgotten() {
        PrintHouse house = new PrintHouse();
        for (int i = 0; i < 18; i++) {
            CHECK.due("PRINT", Request.of(Request.PRINT, 0).pages(1).send(house), 0);
        }
        Request.ofJob(Request.CANCEL, 1).send(house);
        Request.of(Request.PRINT, 0).pages(1).send(house);
        Request.ofJob(Request.CANCEL, 19).send(house);
        counts("nineteen known", house, 40, 40, 0, 19, 20, 1, 0);
        CHECK.due("tick()", house.tick(), 2);
        counts("seventeen left", house, 40 + 34 + 1 + 1 + 1, 36, 1, 17, 20, 1, 0);
        CHECK.due("job(2, 0)", house.job(2, 0), 9);
        CHECK.isNone("job(19, 0)", () -> house.job(19, 0));
        Request.of(Request.PRINT, 0).end().data(Request.COUNT_PAGE).send(house);
        CHECK.due("pixel(20, 0, 11)", house.pixel(20, 0, 11), 12);
        CHECK.due("pixel(18, 0, 11)", house.pixel(18, 0, 11), 1);
    }
}
