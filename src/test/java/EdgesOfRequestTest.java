/** Promise 3, its boundary cases: the draft behind a request, and a house that goes down in one. */
public final class EdgesOfRequestTest {

    private static final Check CHECK = new Check("EdgesOfRequestTest");

    public static void main(String[] args) {
        CHECK.sentence("Does the request that is drafted", "nothing", EdgesOfRequestTest::anEmptyDraft);
        CHECK.sentence("nothing is drafted then", EdgesOfRequestTest::nothingIsDraftedThen);
        CHECK.sentence("nothing is drafted then", "of a long request before a short one", EdgesOfRequestTest::noTail);
        CHECK.sentence("NONE if the house went down", EdgesOfRequestTest::theHouseWentDown);
        CHECK.sentence("What throws changes nothing", "while the house is down", EdgesOfRequestTest::whileDown);
        CHECK.end();
    }

    private static void anEmptyDraft() {
        PrintHouse house = new PrintHouse();
        CHECK.due("request()", house.request(), 1024);
        CHECK.due("reply", Request.reply(house), "1 1 4 0 0 0 0 0 3");
        CHECK.leavesHouse("request()", Scene::calm, PrintHouse::request);
    }

    private static void nothingIsDraftedThen() {
        Request[] requests = {
            Request.print().pages(1), Request.list(), Request.ofJob(Request.ASK, 1), Request.ofJob(Request.HOLD, 1),
            Request.ofJob(Request.CANCEL, 9), Request.ofJob(Request.CANCEL, 1), Request.ofJob(Request.HOLD, 1),
            Request.raw(2, 2), Request.raw(1), Request.of(77, 1).end(), Request.print().integer("up", 3).pages(1),
            Request.print().end(), Request.print().pages(7)};
        int[] status = {0, 0, 0, 0, 1030, 0, 1028, 1283, 1024, 1281, 1035, 1041, 1032};
        PrintHouse house = new PrintHouse();
        for (int i = 0; i < requests.length; i++) {
            requests[i].draft(house);
            CHECK.due("request " + i + ": count(6) before", house.count(6), requests[i].bytes().length);
            CHECK.due("request " + i, house.request(), status[i]);
            CHECK.due("request " + i + ": count(6)", house.count(6), 0);
            CHECK.due("request " + i + ", then none", house.request(), 1024);
            CHECK.due("request " + i + ", then none: reply(7)", house.reply(7), 0);
        }
    }

    private static void noTail() {
        PrintHouse house = new PrintHouse();
        CHECK.due("a long LIST", EdgesOfFormTest.longestList().send(house), 0);
        CHECK.due("its first nine bytes", Request.of(Request.LIST, 0).send(house), 1024);
        CHECK.due("PRINT of two pages", Request.of(Request.PRINT, 0).pages(2).send(house), 0);
        CHECK.due("PRINT without data", Request.of(Request.PRINT, 0).end().send(house), 1041);
        CHECK.due("PRINT of half a page", Request.of(Request.PRINT, 0).end().data(80, 2).send(house), 1041);
        CHECK.due("PRINT of one page", Request.of(Request.PRINT, 0).pages(1).send(house), 0);
        CHECK.due("job(2, 6)", house.job(2, 6), 1);
        CHECK.due("ASK", Request.ofJob(Request.ASK, 1).send(house), 0);
        CHECK.due("ASK without job", Request.of(Request.ASK, 0).end().send(house), 1024);
    }

    private static void wentDown(Request request, int stop, int done) {
        PrintHouse house = new PrintHouse();
        Scene.calm(house);
        int blocks = house.count(0);
        house.stop(stop);
        CHECK.due("stop(" + stop + ")", request.send(house), PrintHouse.NONE);
        CHECK.due("count(6)", house.count(6), 0);
        CHECK.due("count(5)", house.count(5), 0);
        CHECK.due("reply(0)", house.reply(0), PrintHouse.NONE);
        CHECK.due("count(0)", house.count(0), blocks + done);
        CHECK.due("count(1)", house.count(1), blocks);
        CHECK.due("count(3)", house.count(3), 5);
        CHECK.due("count(4)", house.count(4), 6);
        house.restart();
        int[] states = Scene.states();
        for (int number = 1; number <= states.length; number++) {
            CHECK.due("job(" + number + ", 0)", house.job(number, 0), states[number - 1]);
        }
    }

    private static void theHouseWentDown() {
        for (int stop = 0; stop < 4; stop++) {
            wentDown(Request.print().bool("hold", 1).pages(3), stop, stop);
        }
        wentDown(Request.ofJob(Request.CANCEL, 3), 0, 0);
        wentDown(Request.ofJob(Request.CANCEL, 5), 0, 0);
        wentDown(Request.ofJob(Request.HOLD, 4), 0, 0);
        wentDown(Request.ofJob(Request.RELEASE, 5), 0, 0);
        PrintHouse house = new PrintHouse();
        house.stop(4);
        CHECK.due("PRINT of four blocks, stop(4)", Request.print().pages(3).send(house), 0);
        CHECK.due("count(5)", house.count(5), 1);
        CHECK.due("reply(34)", house.reply(34), 3);
    }

    private static void whileDown() {
        PrintHouse house = new PrintHouse();
        Scene.down(house);
        CHECK.isDown("request()", house::request);
        CHECK.due("count(6)", house.count(6), 9);
        CHECK.leavesAll("request()", Scene::down, each -> Check.outcome(each::request));
        PrintHouse empty = new PrintHouse();
        empty.stop(0);
        Request.print().pages(1).send(empty);
        CHECK.isDown("request() of nothing", empty::request);
    }
}
