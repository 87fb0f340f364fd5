/** Promise 7: stop lets k blocks more be written, and the house goes down at the next. */
public final class StopTest {

    private static final Check CHECK = new Check("StopTest");

    public static void main(String[] args) {
        belowZeroSetsNothing();
        aLaterStopTakesItsPlace();
        theHouseGoesDownAtTheNextBlock();
        aStopIsOverWhenTheHouseGoesDown();
        everyBlockOfALogMadeAnew();
        CHECK.end();
    }

    private static void belowZeroSetsNothing() {
        PrintHouse house = new PrintHouse();
        CHECK.due("stop(-1)", house.stop(-1), false);
        CHECK.due("stop(MIN)", house.stop(Integer.MIN_VALUE), false);
        CHECK.due("PRINT", Request.print().pages(1).send(house), 0);
        CHECK.due("stop(0)", house.stop(0), true);
        CHECK.due("stop(-1) leaves the other one", house.stop(-1), false);
        CHECK.due("PRINT", Request.print().pages(1).send(house), PrintHouse.NONE);
        CHECK.isDown("stop(1)", () -> house.stop(1) ? 1 : 0);
        CHECK.isDown("stop(-1)", () -> house.stop(-1) ? 1 : 0);
    }

    private static void aLaterStopTakesItsPlace() {
        PrintHouse house = new PrintHouse();
        house.stop(0);
        CHECK.due("stop(4)", house.stop(4), true);
        CHECK.due("PRINT", Request.print().pages(1).send(house), 0);
        CHECK.due("stop(2)", house.stop(2), true);
        CHECK.due("PRINT", Request.print().pages(1).send(house), 0);
        CHECK.due("PRINT", Request.print().pages(1).send(house), PrintHouse.NONE);
        house.restart();
        CHECK.due("stop(MAX)", house.stop(Integer.MAX_VALUE), true);
        CHECK.due("PRINT", Request.print().pages(1).send(house), 0);
    }

    private static void theHouseGoesDownAtTheNextBlock() {
        PrintHouse house = new PrintHouse();
        house.stop(2);
        CHECK.due("PRINT", Request.print().pages(1).send(house), 0);
        CHECK.due("count(5)", house.count(5), 1);
        CHECK.due("what writes nothing", Request.list().send(house), 0);
        CHECK.due("what is refused", Request.print().pages(7).send(house), 1032);
        CHECK.due("HOLD", Request.ofJob(Request.HOLD, 1).send(house), PrintHouse.NONE);
        CHECK.due("count(5)", house.count(5), 0);
        CHECK.due("count(0)", house.count(0), 2);
        CHECK.due("count(1)", house.count(1), 2);
    }

    private static void aStopIsOverWhenTheHouseGoesDown() {
        PrintHouse house = new PrintHouse();
        house.stop(1);
        CHECK.due("PRINT", Request.print().pages(2).send(house), PrintHouse.NONE);
        house.restart();
        CHECK.due("PRINT", Request.print().pages(2).send(house), 0);
        CHECK.due("count(0)", house.count(0), 4);
        CHECK.due("count(1)", house.count(1), 3);
    }

    /** A log of 39 blocks with 28 of jobs that have not ended; a PRINT of seven makes it anew. */
    private static PrintHouse nearlyFull() {
        PrintHouse house = new PrintHouse();
        for (int number = 1; number <= 5; number++) {
            Request.print().pages(6).send(house);
        }
        Request.ofJob(Request.HOLD, 5).send(house);
        Request.ofJob(Request.RELEASE, 5).send(house);
        Request.ofJob(Request.HOLD, 5).send(house);
        Request.ofJob(Request.CANCEL, 1).send(house);
        return house;
    }

    private static void everyBlockOfALogMadeAnew() {
        for (int k = 0; k <= 37; k++) {
            PrintHouse house = nearlyFull();
            CHECK.due("count(1)", house.count(1), 39);
            house.stop(k);
            String what = "stop(" + k + ")";
            boolean isAnew = k >= 29;
            boolean isDone = k >= 36;
            CHECK.due(what, Request.print().pages(6).send(house), isDone ? 0 : PrintHouse.NONE);
            CHECK.due(what + ": count(0)", house.count(0), 39 + Math.min(k, 36));
            CHECK.due(what + ": count(5)", house.count(5), isDone ? 1 : 0);
            house.restart();
            CHECK.due(what + ": count(1)", house.count(1), isDone ? 35 : isAnew ? 28 : 39);
            CHECK.due(what + ": count(3)", house.count(3), isAnew && !isDone ? 4 : 5);
            CHECK.due(what + ": count(4)", house.count(4), isDone ? 7 : 6);
            CHECK.due(what + ": job(1, 0)", Check.outcome(() -> house.job(1, 0)),
                isAnew ? "throws.IndexOutOfBoundsException" : "7");
            CHECK.due(what + ": job(5, 0)", house.job(5, 0), 4);
            CHECK.due(what + ": pixel(5, 5, 11)", house.pixel(5, 5, 11), 6);
        }
    }
}
