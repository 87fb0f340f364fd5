/** Houses in which there is much that a call could change by mistake. */
final class Scene {

    private Scene() {
    }

    /** A job of each state, a sheet, a reply, no draft and no stop; 19 blocks of 40 are in the log. */
    static void calm(PrintHouse house) {
        Request.print().pages(1).send(house);
        house.tick();
        Request.print().pages(2).send(house);
        house.tick();
        Request.ofJob(Request.CANCEL, 2).send(house);
        Request.print().integer("copies", 2).end().data(Request.COUNT_PAGE).data(Request.HALF_PAGE).send(house);
        house.tick();
        Request.print().integer("priority", 70).integer("up", 2).word("sides", "short").pages(2).send(house);
        Request.print().bool("hold", 1).bool("booklet", 1).pages(2).send(house);
        Request.ofJob(Request.ASK, 3).send(house);
    }

    /** Also with a LIST that lacks its last byte in the draft, and a stop after five blocks. */
    static void busy(PrintHouse house) {
        calm(house);
        house.stop(5);
        Request.of(Request.LIST, 9).draft(house);
    }

    /** The same, but down, with three blocks of a new job written in vain. */
    static void down(PrintHouse house) {
        calm(house);
        house.stop(3);
        Request.print().pages(4).send(house);
        Request.of(Request.LIST, 9).draft(house);
    }

    /** The states of the jobs 1 .. 5 of these houses. */
    static int[] states() {
        return new int[] {9, 7, 5, 3, 4};
    }

    /** A log of forty blocks: 1 is CANCELED, 2 is HELD, 3 .. 6 are PENDING; 31 are of jobs that have not ended. */
    static void fullLog(PrintHouse house) {
        for (int i = 0; i < 5; i++) {
            Request.print().pages(6).send(house);
        }
        Request.ofJob(Request.CANCEL, 1).send(house);
        Request.print().pages(2).send(house);
        Request.ofJob(Request.HOLD, 2).send(house);
    }
}
