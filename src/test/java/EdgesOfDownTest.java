/** Terms, what throws: in a house that is down, and before anything else that could be wrong. */
public final class EdgesOfDownTest {

    private static final Check CHECK = new Check("EdgesOfDownTest");
    private static final int[] EDGES = {0, 1, 5, 6, 9, 12, -1, Integer.MIN_VALUE, Integer.MAX_VALUE};

    public static void main(String[] args) {
        CHECK.sentence("IllegalStateException: the house is down", EdgesOfDownTest::whatThrows);
        CHECK.sentence("the house is down (first of all)", EdgesOfDownTest::firstOfAll);
        CHECK.sentence("IllegalStateException: the house is down", "others do not throw", EdgesOfDownTest::whatDoesNot);
        CHECK.sentence("What throws changes nothing", EdgesOfDownTest::whatThrowsChangesNothing);
        CHECK.sentence("What throws changes nothing", "in a house that is up", EdgesOfDownTest::upToo);
        CHECK.sentence("the house is DOWN", "in a request, and in a tick", EdgesOfDownTest::downEitherWay);
        CHECK.end();
    }

    private static void whatThrows() {
        PrintHouse house = new PrintHouse();
        Scene.down(house);
        for (int i = 0; i < 2; i++) {
            CHECK.isDown("request()", house::request);
            CHECK.isDown("tick()", house::tick);
            CHECK.isDown("stop(1)", () -> house.stop(1) ? 1 : 0);
            CHECK.isDown("job(1, 0)", () -> house.job(1, 0));
            CHECK.isDown("pixel(1, 0, 0)", () -> house.pixel(1, 0, 0));
            CHECK.due("count(5)", house.count(5), 0);
        }
        CHECK.due("restart()", house.restart(), true);
        CHECK.due("job(1, 0)", house.job(1, 0), 9);
        CHECK.due("pixel(1, 0, 0)", house.pixel(1, 0, 0), 1);
        CHECK.due("stop(9)", house.stop(9), true);
        CHECK.due("request()", house.request(), 1024);
        CHECK.due("tick()", house.tick(), 3);
    }

    private static void firstOfAll() {
        PrintHouse house = new PrintHouse();
        Scene.down(house);
        for (int edge : EDGES) {
            CHECK.isDown("stop(" + edge + ")", () -> house.stop(edge) ? 1 : 0);
            CHECK.isDown("job(" + edge + ", 0)", () -> house.job(edge, 0));
            CHECK.isDown("job(1, " + edge + ")", () -> house.job(1, edge));
            CHECK.isDown("job(" + edge + ", " + edge + ")", () -> house.job(edge, edge));
            CHECK.isDown("pixel(" + edge + ", 0, 0)", () -> house.pixel(edge, 0, 0));
            CHECK.isDown("pixel(1, " + edge + ", 0)", () -> house.pixel(1, edge, 0));
            CHECK.isDown("pixel(1, 0, " + edge + ")", () -> house.pixel(1, 0, edge));
        }
    }

    private static void whatDoesNot() {
        PrintHouse house = new PrintHouse();
        Scene.down(house);
        CHECK.due("put(0, 0)", house.put(0, 0), false);
        CHECK.due("put(0, 8)", house.put(0, 8), true);
        CHECK.due("sheet(0)", house.sheet(0), 83);
        for (int edge : EDGES) {
            CHECK.due("reply(" + edge + ")", house.reply(edge), PrintHouse.NONE);
        }
        int[] counts = {22, 19, 3, 5, 6, 0, 17};
        for (int what = 0; what < counts.length; what++) {
            CHECK.due("count(" + what + ")", house.count(what), counts[what]);
        }
        CHECK.due("count(7)", house.count(7), PrintHouse.NONE);
        CHECK.due("restart()", house.restart(), true);
    }

    private static void whatThrowsChangesNothing() {
        CHECK.leavesAll("request()", Scene::down, house -> Check.outcome(house::request));
        CHECK.leavesAll("tick()", Scene::down, house -> Check.outcome(house::tick));
        CHECK.leavesAll("stop(2)", Scene::down, house -> Check.outcome(() -> house.stop(2) ? 1 : 0));
        CHECK.leavesAll("job(3, 7)", Scene::down, house -> Check.outcome(() -> house.job(3, 7)));
        CHECK.leavesAll("pixel(3, 0, 0)", Scene::down, house -> Check.outcome(() -> house.pixel(3, 0, 0)));
    }

    private static void upToo() {
        for (int edge : new int[] {-1, 99}) {
            CHECK.leavesAll("job(" + edge + ", 0)", Scene::busy, house -> Check.outcome(() -> house.job(edge, 0)));
            CHECK.leavesAll("job(3, " + edge + ")", Scene::busy, house -> Check.outcome(() -> house.job(3, edge)));
            CHECK.leavesAll("pixel(3, 0, " + edge + ")", Scene::busy,
                house -> Check.outcome(() -> house.pixel(3, 0, edge)));
        }
    }

    private static void downEitherWay() {
        PrintHouse request = new PrintHouse();
        Request.print().pages(1).send(request);
        request.stop(0);
        CHECK.due("HOLD", Request.ofJob(Request.HOLD, 1).send(request), PrintHouse.NONE);
        CHECK.isDown("tick()", request::tick);
        PrintHouse tick = new PrintHouse();
        Request.print().pages(1).send(tick);
        tick.stop(0);
        CHECK.due("tick", tick.tick(), PrintHouse.NONE);
        CHECK.isDown("request()", tick::request);
    }
}
