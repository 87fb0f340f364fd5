/** Promise 5: a tick sends one sheet of the job whose turn it is. */
public final class TickTest {

    private static final Check CHECK = new Check("TickTest");

    public static void main(String[] args) {
        theScheduleFollowsPriority();
        heldJobsWait();
        aStartedJobIsNotOvertaken();
        copiesAreWholePasses();
        aStopBeforeTheSheet();
        aStopBehindTheLastSheet();
        aTickMayMakeTheLogAnew();
        CHECK.end();
    }

    private static void ticks(PrintHouse house, int... want) {
        for (int i = 0; i < want.length; i++) {
            CHECK.due("tick " + i, house.tick(), want[i]);
        }
    }

    private static void theScheduleFollowsPriority() {
        PrintHouse house = new PrintHouse();
        Request.print().integer("priority", 1).pages(1).send(house);
        Request.print().pages(2).send(house);
        Request.print().integer("priority", 100).pages(1).send(house);
        Request.print().integer("priority", 50).pages(1).send(house);
        ticks(house, 3, 2, 2, 4, 1, 0, 0);
        CHECK.due("count(2)", house.count(2), 5);
        CHECK.due("count(0)", house.count(0), 9 + 8);
        for (int number = 1; number <= 4; number++) {
            CHECK.due("job(" + number + ", 0)", house.job(number, 0), 9);
        }
    }

    private static void heldJobsWait() {
        PrintHouse house = new PrintHouse();
        Request.print().integer("priority", 90).bool("hold", 1).pages(1).send(house);
        ticks(house, 0);
        Request.print().pages(1).send(house);
        ticks(house, 2, 0);
        CHECK.due("count(0)", house.count(0), 6);
        Request.ofJob(Request.RELEASE, 1).send(house);
        ticks(house, 1, 0);
    }

    private static void aStartedJobIsNotOvertaken() {
        PrintHouse house = new PrintHouse();
        Request.print().integer("priority", 1).pages(2).send(house);
        ticks(house, 1);
        Request.print().integer("priority", 100).pages(1).send(house);
        ticks(house, 1, 2, 0);
        Request.print().pages(3).send(house);
        ticks(house, 3);
        Request.ofJob(Request.CANCEL, 3).send(house);
        ticks(house, 0);
    }

    private static void copiesAreWholePasses() {
        PrintHouse house = new PrintHouse();
        Request.print().integer("copies", 3).pages(2).send(house);
        int[] pixels = {1, 2, 1, 2, 1, 2};
        for (int i = 0; i < pixels.length; i++) {
            CHECK.due("state before " + i, house.job(1, 0), i == 0 ? 3 : 5);
            ticks(house, 1);
            CHECK.due("sheet " + i, Request.sheet(house), "83 4 3 1 2 3 " + pixels[i]);
            CHECK.due("job(1, 7)", house.job(1, 7), i + 1);
        }
        CHECK.due("job(1, 0)", house.job(1, 0), 9);
        ticks(house, 0);
    }

    private static void aStopBeforeTheSheet() {
        PrintHouse house = new PrintHouse();
        Request.print().pages(1).send(house);
        house.stop(0);
        ticks(house, PrintHouse.NONE);
        CHECK.due("count(2)", house.count(2), 0);
        CHECK.due("sheet(0)", house.sheet(0), PrintHouse.NONE);
        CHECK.isDown("tick()", house::tick);
        house.restart();
        CHECK.due("job(1, 0)", house.job(1, 0), 3);
        ticks(house, 1, 0);
    }

    private static void aStopBehindTheLastSheet() {
        PrintHouse house = new PrintHouse();
        Request.print().integer("copies", 2).pages(1).send(house);
        house.stop(1);
        ticks(house, 1, PrintHouse.NONE);
        CHECK.due("count(2)", house.count(2), 2);
        CHECK.due("sheet", Request.sheet(house), "83 4 3 1 2 3 1");
        house.restart();
        CHECK.due("job(1, 0)", house.job(1, 0), 5);
        CHECK.due("job(1, 7)", house.job(1, 7), 0);
        ticks(house, 1, 1, 0);
        CHECK.due("count(2)", house.count(2), 4);
        CHECK.due("job(1, 7)", house.job(1, 7), 2);
    }

    private static void aTickMayMakeTheLogAnew() {
        PrintHouse house = fullLog();
        ticks(house, 6);
        CHECK.due("count(0)", house.count(0), 77 + 35 + 1 + 1);
        CHECK.due("count(1)", house.count(1), 36);
        CHECK.due("job(6, 0)", house.job(6, 0), 5);
        PrintHouse stopped = fullLog();
        stopped.stop(35);
        ticks(stopped, PrintHouse.NONE);
        CHECK.due("count(0), stopped at the last block", stopped.count(0), 77 + 35);
        CHECK.due("count(1), stopped at the last block", stopped.count(1), 40);
        CHECK.due("count(2), stopped at the last block", stopped.count(2), 0);
    }

    /** A log of forty blocks, with five jobs of 35 blocks that have not ended; 6 comes first. */
    private static PrintHouse fullLog() {
        PrintHouse house = new PrintHouse();
        for (int number = 1; number <= 5; number++) {
            Request.print().pages(6).send(house);
        }
        Request.ofJob(Request.CANCEL, 1).send(house);
        Request.print().integer("priority", 60).pages(6).send(house);
        for (int i = 0; i < 2; i++) {
            Request.ofJob(Request.HOLD, 2).send(house);
            Request.ofJob(Request.RELEASE, 2).send(house);
        }
        Request.ofJob(Request.HOLD, 2).send(house);
        CHECK.due("count(1) of a full log", house.count(1), 40);
        CHECK.due("count(0) of a full log", house.count(0), 77);
        return house;
    }
}
