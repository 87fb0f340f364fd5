/** Terms, 1287: the jobs that have not ended have at most 36 blocks. */
public final class EdgesOfRoomTest {

    private static final Check CHECK = new Check("EdgesOfRoomTest");

    public static void main(String[] args) {
        CHECK.sentence("would have more than 36 blocks", EdgesOfRoomTest::justInsideAndOutside);
        CHECK.sentence("the jobs that have not ended, and this one", "the most jobs", EdgesOfRoomTest::theMostJobs);
        CHECK.sentence("the jobs that have not ended", "others are not counted", EdgesOfRoomTest::endedJobsMakeRoom);
        CHECK.sentence("the jobs that have not ended", "HELD and PROCESSING ones, too", EdgesOfRoomTest::otherStates);
        CHECK.sentence("a new job is 1 block and 1 for each page", "whatever copies and up are",
            EdgesOfRoomTest::copies);
        CHECK.sentence("would have more than 36 blocks", "not those in the log", EdgesOfRoomTest::changesAreNotCounted);
        CHECK.sentence("1287 the jobs that have not ended", "nothing has changed", EdgesOfRoomTest::nothingChanges);
        CHECK.sentence("1287 the jobs that have not ended", "behind a restart", EdgesOfRoomTest::behindARestart);
        CHECK.end();
    }

    private static int print(PrintHouse house, int pages) {
        return Request.of(Request.PRINT, 0).pages(pages).send(house);
    }

    /** PENDING jobs with so many blocks in all, 0 or 2 .. 36. */
    private static void fill(PrintHouse house, int blocks) {
        int left = blocks;
        while (left > 0) {
            int next = left == 8 ? 4 : Math.min(7, left);
            CHECK.due("PRINT of " + next + " blocks", print(house, next - 1), 0);
            left -= next;
        }
    }

    private static void justInsideAndOutside() {
        for (int pages = 1; pages <= 6; pages++) {
            PrintHouse fits = new PrintHouse();
            fill(fits, 36 - 1 - pages);
            int number = fits.count(4);
            CHECK.due(pages + " pages, 36 in all", print(fits, pages), 0);
            CHECK.due(pages + " pages, 36 in all: job(.., 0)", fits.job(number, 0), 3);
            PrintHouse full = new PrintHouse();
            fill(full, 37 - 1 - pages);
            number = full.count(4);
            CHECK.due(pages + " pages, 37 in all", print(full, pages), 1287);
            CHECK.due(pages + " pages, 37 in all: count(4)", full.count(4), number);
            CHECK.due(pages + " pages, 37 in all: count(0)", full.count(0), 36 - pages);
            PrintHouse most = new PrintHouse();
            fill(most, 36);
            CHECK.due(pages + " pages behind 36", print(most, pages), 1287);
        }
    }

    private static void theMostJobs() {
        PrintHouse house = new PrintHouse();
        for (int number = 1; number <= 18; number++) {
            CHECK.due("job " + number, print(house, 1), 0);
        }
        CHECK.due("job 19", print(house, 1), 1287);
        CHECK.due("count(3)", house.count(3), 18);
        CHECK.due("count(4)", house.count(4), 19);
        CHECK.due("tick", house.tick(), 1);
        CHECK.due("job 19 in place of one", print(house, 1), 0);
        CHECK.due("job 20", print(house, 1), 1287);
        CHECK.due("job(19, 0)", house.job(19, 0), 3);
    }

    private static void endedJobsMakeRoom() {
        PrintHouse canceled = new PrintHouse();
        fill(canceled, 35);
        CHECK.due("2 above 35", print(canceled, 1), 1287);
        Request.ofJob(Request.CANCEL, 2).send(canceled);
        CHECK.due("7 above 28, one CANCELED", print(canceled, 6), 0);
        CHECK.due("2 above 35 again", print(canceled, 1), 1287);
        PrintHouse completed = new PrintHouse();
        print(completed, 2);
        fill(completed, 33);
        CHECK.due("2 above 36", print(completed, 1), 1287);
        completed.tick();
        CHECK.due("2 above 36, one PROCESSING", print(completed, 1), 1287);
        completed.tick();
        CHECK.due("4 above 33, one COMPLETED", print(completed, 3), 1287);
        CHECK.due("3 above 33, one COMPLETED", print(completed, 2), 0);
    }

    private static void otherStates() {
        PrintHouse house = new PrintHouse();
        fill(house, 34);
        for (int number = 1; number <= 4; number++) {
            Request.ofJob(Request.HOLD, number).send(house);
        }
        CHECK.due("3 above 34, four HELD", print(house, 2), 1287);
        house.tick();
        CHECK.due("3 above 34, one PROCESSING", print(house, 2), 1287);
        CHECK.due("2 above 34", print(house, 1), 0);
    }

    private static void copies() {
        PrintHouse house = new PrintHouse();
        fill(house, 32);
        CHECK.due("4 above 32", Request.print().integer("copies", 3).integer("up", 4).pages(3).send(house), 0);
        PrintHouse full = new PrintHouse();
        fill(full, 33);
        CHECK.due("4 above 33", Request.print().integer("copies", 1).integer("up", 4).pages(3).send(full), 1287);
    }

    private static void changesAreNotCounted() {
        PrintHouse house = new PrintHouse();
        fill(house, 28);
        for (int i = 0; i < 5; i++) {
            Request.ofJob(Request.HOLD, 1).send(house);
            Request.ofJob(Request.RELEASE, 1).send(house);
        }
        CHECK.due("count(1)", house.count(1), 38);
        CHECK.due("7 above 28", print(house, 6), 0);
        CHECK.due("2 above 35", print(house, 1), 1287);
    }

    private static void nothingChanges() {
        View.Run full = house -> {
            for (int i = 0; i < 5; i++) {
                print(house, 6);
            }
            house.tick();
        };
        for (int pages = 1; pages <= 6; pages++) {
            Request refused = Request.print().bool("hold", 1).pages(pages);
            CHECK.leavesHouse("PRINT of " + pages + " pages", full, refused::send);
        }
        PrintHouse house = new PrintHouse();
        full.on(house);
        CHECK.due("PRINT with a stop set", house.stop(0), true);
        CHECK.due("PRINT of no block", print(house, 1), 1287);
        CHECK.due("count(5)", house.count(5), 1);
        CHECK.due("reply", Request.reply(house), "1 1 5 7 0 0 0 0 3");
    }

    private static void behindARestart() {
        PrintHouse house = new PrintHouse();
        fill(house, 34);
        house.stop(1);
        CHECK.due("2 above 34, stopped", print(house, 1), PrintHouse.NONE);
        house.restart();
        CHECK.due("3 above 34", print(house, 2), 1287);
        CHECK.due("2 above 34", print(house, 1), 0);
        CHECK.due("2 above 36", print(house, 1), 1287);
    }
}
