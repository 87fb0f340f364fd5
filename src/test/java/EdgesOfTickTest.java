/** Terms, a TICK, and Promise 5: whose turn it is, the last sheet, and a house that goes down in a tick. */
public final class EdgesOfTickTest {

    private static final Check CHECK = new Check("EdgesOfTickTest");

    public static void main(String[] args) {
        CHECK.sentence("(without one, that is all)", EdgesOfTickTest::withoutOne);
        CHECK.sentence("if no job is PROCESSING, the PENDING one that LIST has first is", EdgesOfTickTest::whoseTurn);
        CHECK.sentence("the PENDING one", "not a HELD one", EdgesOfTickTest::heldOnesWait);
        CHECK.sentence("if no job is PROCESSING", "else that one goes on", EdgesOfTickTest::processingGoesOn);
        CHECK.sentence("Its next sheet is sent", EdgesOfTickTest::oneSheetATick);
        CHECK.sentence("if that was its last, it is COMPLETED", EdgesOfTickTest::theLastSheet);
        CHECK.sentence("if that was its last, it is COMPLETED", "of one sheet: two transactions",
            EdgesOfTickTest::oneSheet);
        CHECK.sentence("the job of which a sheet was sent", "a canceled one is left", EdgesOfTickTest::canceledOnes);
        CHECK.sentence("NONE if the house went down", "before the sheet: nothing is sent", EdgesOfTickTest::downBefore);
        CHECK.sentence("NONE if the house went down (also if the sheet was sent before)", EdgesOfTickTest::downBehind);
        CHECK.sentence("NONE if the house went down", "with a draft, that stays", EdgesOfTickTest::theDraftStays);
        CHECK.sentence("What throws changes nothing", "while the house is down", EdgesOfTickTest::whileDown);
        CHECK.end();
    }

    private static void ticks(String what, PrintHouse house, int... want) {
        for (int i = 0; i < want.length; i++) {
            CHECK.due(what + ": tick " + i, house.tick(), want[i]);
        }
    }

    private static void withoutOne() {
        ticks("no job", new PrintHouse(), 0, 0);
        CHECK.leavesAll("a tick without a job", house -> Request.of(9, 9).draft(house), PrintHouse::tick);
        View.Run idle = house -> {
            Request.print().bool("hold", 1).pages(1).send(house);
            Request.print().integer("copies", 2).pages(1).send(house);
            house.tick();
            house.tick();
            Request.print().pages(1).send(house);
            Request.ofJob(Request.CANCEL, 3).send(house);
            house.stop(1);
            Request.of(Request.LIST, 9).draft(house);
        };
        PrintHouse house = new PrintHouse();
        idle.on(house);
        ticks("HELD and ended ones", house, 0, 0);
        CHECK.leavesAll("a tick without a PENDING job", idle, PrintHouse::tick);
    }

    private static void whoseTurn() {
        PrintHouse house = new PrintHouse();
        int[] priorities = {50, 1, 100, 50, 99};
        for (int priority : priorities) {
            Request.print().integer("priority", priority).pages(1).send(house);
        }
        ticks("by priority, then number", house, 3, 5, 1, 4, 2, 0);
    }

    private static void heldOnesWait() {
        PrintHouse house = new PrintHouse();
        Request.print().integer("priority", 100).bool("hold", 1).pages(1).send(house);
        Request.print().integer("priority", 1).pages(2).send(house);
        ticks("the PENDING one", house, 2);
        Request.ofJob(Request.RELEASE, 1).send(house);
        ticks("the PROCESSING one", house, 2, 1, 0);
        Request.print().pages(1).send(house);
        Request.ofJob(Request.HOLD, 3).send(house);
        ticks("one that was held", house, 0);
        Request.ofJob(Request.RELEASE, 3).send(house);
        ticks("one that was released", house, 3, 0);
    }

    private static void processingGoesOn() {
        PrintHouse house = new PrintHouse();
        Request.print().integer("priority", 1).integer("copies", 2).pages(2).send(house);
        ticks("it begins", house, 1);
        Request.print().integer("priority", 100).pages(1).send(house);
        ticks("it goes on", house, 1, 1, 1, 2, 0);
    }

    private static void oneSheetATick() {
        PrintHouse house = new PrintHouse();
        Request.print().pages(3).send(house);
        for (int page = 1; page <= 3; page++) {
            ticks("sheet " + page, house, 1);
            CHECK.due("sheet " + page, Request.sheet(house), "83 4 3 1 2 3 " + page);
            CHECK.due("count(2)", house.count(2), page);
            CHECK.due("job(1, 7)", house.job(1, 7), page);
        }
    }

    private static void theLastSheet() {
        PrintHouse house = new PrintHouse();
        Request.print().pages(3).send(house);
        int[] states = {5, 5, 9};
        int[] blocks = {5, 5, 6};
        for (int i = 0; i < 3; i++) {
            ticks("sheet " + i, house, 1);
            CHECK.due("state behind sheet " + i, house.job(1, 0), states[i]);
            CHECK.due("blocks behind sheet " + i, house.count(0), blocks[i]);
        }
        ticks("behind the last", house, 0);
        CHECK.due("count(2)", house.count(2), 3);
    }

    private static void oneSheet() {
        PrintHouse house = new PrintHouse();
        Request.print().pages(1).send(house);
        ticks("the only sheet", house, 1);
        CHECK.due("job(1, 0)", house.job(1, 0), 9);
        CHECK.due("count(0)", house.count(0), 4);
        CHECK.due("count(1)", house.count(1), 4);
    }

    private static void canceledOnes() {
        PrintHouse house = new PrintHouse();
        Request.print().pages(3).send(house);
        Request.print().integer("priority", 1).pages(1).send(house);
        ticks("the first", house, 1);
        Request.ofJob(Request.CANCEL, 1).send(house);
        ticks("the next", house, 2, 0);
        CHECK.due("job(1, 7)", house.job(1, 7), 1);
        CHECK.due("count(2)", house.count(2), 2);
    }

    private static void downBefore() {
        PrintHouse house = new PrintHouse();
        Request.print().pages(1).send(house);
        ticks("a sheet", house, 1);
        Request.print().end().data(Request.COUNT_PAGE).send(house);
        house.stop(0);
        ticks("down", house, PrintHouse.NONE);
        CHECK.due("count(2)", house.count(2), 1);
        CHECK.due("count(0)", house.count(0), 6);
        CHECK.due("sheet", Request.sheet(house), "83 4 3 1 2 3 1");
        house.restart();
        CHECK.due("job(2, 0)", house.job(2, 0), 3);
        ticks("up again", house, 2, 0);
        CHECK.due("count(2) behind it", house.count(2), 2);
    }

    private static void downBehind() {
        PrintHouse house = new PrintHouse();
        Request.print().end().data(Request.HALF_PAGE).send(house);
        house.stop(1);
        ticks("down", house, PrintHouse.NONE);
        CHECK.due("count(2)", house.count(2), 1);
        CHECK.due("count(0)", house.count(0), 3);
        CHECK.due("count(1)", house.count(1), 3);
        CHECK.due("sheet", Request.sheet(house), "83 4 3 1 2 1 7 1 8");
        house.restart();
        CHECK.due("job(1, 0)", house.job(1, 0), 5);
        CHECK.due("job(1, 7)", house.job(1, 7), 0);
        house.stop(0);
        ticks("down once more", house, PrintHouse.NONE);
        CHECK.due("count(2) once more", house.count(2), 2);
        house.restart();
        house.stop(1);
        ticks("a stop just behind", house, 1, 0);
        CHECK.due("count(5)", house.count(5), 1);
        CHECK.due("job(1, 0)", house.job(1, 0), 9);
        CHECK.due("count(2) in all", house.count(2), 3);
    }

    private static void theDraftStays() {
        PrintHouse house = new PrintHouse();
        Request.print().pages(1).send(house);
        Request.of(Request.LIST, 9).draft(house);
        house.stop(0);
        ticks("down", house, PrintHouse.NONE);
        CHECK.due("count(6)", house.count(6), 9);
        house.restart();
        house.put(3, 1);
        CHECK.due("request()", house.request(), 0);
        CHECK.due("reply(7)", house.reply(7), 9);
    }

    private static void whileDown() {
        PrintHouse house = new PrintHouse();
        Scene.down(house);
        CHECK.isDown("tick()", house::tick);
        CHECK.leavesAll("tick()", Scene::down, each -> Check.outcome(each::tick));
        PrintHouse empty = new PrintHouse();
        empty.stop(0);
        Request.print().pages(1).send(empty);
        CHECK.isDown("tick() without a job", empty::tick);
    }
}
