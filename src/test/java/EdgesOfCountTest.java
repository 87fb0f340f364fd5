/** Promises 1 and 11, their boundary cases: a new object, and what can be counted, up and down. */
public final class EdgesOfCountTest {

    private static final Check CHECK = new Check("EdgesOfCountTest");

    public static void main(String[] args) {
        CHECK.sentence("Up, no jobs, an empty log, nothing drafted", EdgesOfCountTest::aNewObject);
        CHECK.sentence("NONE for another one", EdgesOfCountTest::anotherOne);
        CHECK.sentence("0: blocks written in all", "also in vain", EdgesOfCountTest::blocksWritten);
        CHECK.sentence("1: blocks in the log (of transactions that are done)", EdgesOfCountTest::blocksInTheLog);
        CHECK.sentence("2: sheets sent in all", EdgesOfCountTest::sheetsSent);
        CHECK.sentence("3: jobs known", EdgesOfCountTest::jobsKnown);
        CHECK.sentence("4: the next job's number", EdgesOfCountTest::nextNumber);
        CHECK.sentence("5: 1 up, 0 down", EdgesOfCountTest::upAndDown);
        CHECK.sentence("6: how long the draft is", EdgesOfCountTest::draft);
        CHECK.end();
    }

    private static void aNewObject() {
        PrintHouse house = new PrintHouse();
        int[] counts = {0, 0, 0, 0, 1, 1, 0};
        for (int what = 0; what < counts.length; what++) {
            CHECK.due("count(" + what + ")", house.count(what), counts[what]);
        }
        CHECK.due("restart()", house.restart(), false);
        CHECK.due("reply(0)", house.reply(0), PrintHouse.NONE);
        CHECK.due("sheet(0)", house.sheet(0), PrintHouse.NONE);
        CHECK.isNone("job(1, 0)", () -> house.job(1, 0));
        CHECK.isNone("pixel(1, 0, 0)", () -> house.pixel(1, 0, 0));
        CHECK.due("tick()", house.tick(), 0);
        CHECK.due("request() of nothing", house.request(), 1024);
        CHECK.due("no stop: PRINT", Request.print().pages(6).send(house), 0);
        CHECK.due("its number", house.reply(20), 1);
        CHECK.due("another object", new PrintHouse().count(3), 0);
        CHECK.due("NONE", PrintHouse.NONE, -1);
    }

    private static void anotherOne() {
        View.Run[] scenes = {house -> { }, Scene::busy, Scene::down};
        for (View.Run scene : scenes) {
            for (int what : new int[] {-1, -2, 7, 8, 256, Integer.MIN_VALUE, Integer.MAX_VALUE}) {
                PrintHouse house = new PrintHouse();
                scene.on(house);
                CHECK.due("count(" + what + ")", house.count(what), PrintHouse.NONE);
                CHECK.leavesAll("count(" + what + ")", scene, each -> each.count(what));
            }
            for (int what = 0; what <= 6; what++) {
                int asked = what;
                CHECK.leavesAll("count(" + what + ")", scene, each -> each.count(asked));
            }
        }
    }

    private static void blocksWritten() {
        PrintHouse house = new PrintHouse();
        house.stop(3);
        Request.print().pages(3).send(house);
        CHECK.due("count(0) while down", house.count(0), 3);
        house.restart();
        CHECK.due("count(0) when up", house.count(0), 3);
        Request.print().pages(3).send(house);
        CHECK.due("count(0) behind PRINT", house.count(0), 7);
        house.tick();
        CHECK.due("count(0) behind the first tick", house.count(0), 8);
        house.tick();
        CHECK.due("count(0) behind the second", house.count(0), 8);
        house.tick();
        CHECK.due("count(0) behind the last", house.count(0), 9);
    }

    private static void blocksInTheLog() {
        PrintHouse house = new PrintHouse();
        house.stop(3);
        Request.print().pages(3).send(house);
        CHECK.due("count(1) while down", house.count(1), 0);
        house.restart();
        CHECK.due("count(1) when up", house.count(1), 0);
        Request.print().pages(3).send(house);
        CHECK.due("count(1) behind PRINT", house.count(1), 4);
        PrintHouse full = new PrintHouse();
        Scene.fullLog(full);
        CHECK.due("count(1) of a full log", full.count(1), 40);
        Request.ofJob(Request.CANCEL, 3).send(full);
        CHECK.due("count(1) made anew", full.count(1), 32);
        CHECK.due("count(0) made anew", full.count(0), 40 + 31 + 1 + 1);
    }

    private static void sheetsSent() {
        PrintHouse house = new PrintHouse();
        Request.print().integer("copies", 3).word("sides", "long").pages(2).send(house);
        for (int sheets = 0; sheets < 3; sheets++) {
            CHECK.due("count(2)", house.count(2), sheets);
            house.tick();
        }
        CHECK.due("count(2)", house.count(2), 3);
        house.tick();
        CHECK.due("count(2) behind a tick without one", house.count(2), 3);
        Request.print().pages(2).send(house);
        house.tick();
        house.stop(0);
        house.tick();
        CHECK.due("count(2), sent before the house went down", house.count(2), 5);
        house.restart();
        house.tick();
        CHECK.due("count(2), a sheet again", house.count(2), 6);
    }

    private static void jobsKnown() {
        PrintHouse house = new PrintHouse();
        Request.print().pages(1).send(house);
        Request.print().bool("hold", 1).pages(1).send(house);
        Request.print().pages(7).send(house);
        CHECK.due("count(3)", house.count(3), 2);
        house.tick();
        Request.ofJob(Request.CANCEL, 2).send(house);
        CHECK.due("count(3) with ended ones", house.count(3), 2);
        house.stop(1);
        Request.print().pages(1).send(house);
        CHECK.due("count(3) while down", house.count(3), 2);
        house.restart();
        CHECK.due("count(3) when up", house.count(3), 2);
        PrintHouse most = mostJobs();
        CHECK.due("count(3), the most", most.count(3), 19);
        most.tick();
        CHECK.due("count(3), made anew", most.count(3), 17);
    }

    /** Eighteen jobs of two blocks, one canceled, one more, and that canceled, too: forty blocks. */
    private static PrintHouse mostJobs() {
        PrintHouse house = new PrintHouse();
        for (int number = 1; number <= 18; number++) {
            Request.of(Request.PRINT, 0).pages(1).send(house);
        }
        Request.ofJob(Request.CANCEL, 1).send(house);
        Request.of(Request.PRINT, 0).pages(1).send(house);
        Request.ofJob(Request.CANCEL, 19).send(house);
        return house;
    }

    private static void nextNumber() {
        PrintHouse house = new PrintHouse();
        CHECK.due("count(4)", house.count(4), 1);
        Request.print().pages(7).send(house);
        CHECK.due("count(4) behind a refused PRINT", house.count(4), 1);
        house.stop(1);
        Request.print().pages(1).send(house);
        CHECK.due("count(4) while down", house.count(4), 1);
        house.restart();
        CHECK.due("count(4) when up", house.count(4), 1);
        Request.print().pages(1).send(house);
        CHECK.due("count(4) behind PRINT", house.count(4), 2);
        Request.ofJob(Request.CANCEL, 1).send(house);
        CHECK.due("count(4) behind CANCEL", house.count(4), 2);
        CHECK.due("count(4) of the most", mostJobs().count(4), 20);
    }

    private static void upAndDown() {
        PrintHouse house = new PrintHouse();
        Request.print().pages(1).send(house);
        house.stop(0);
        CHECK.due("count(5) with a stop set", house.count(5), 1);
        house.tick();
        CHECK.due("count(5) while down", house.count(5), 0);
        house.restart();
        CHECK.due("count(5) when up", house.count(5), 1);
    }

    private static void draft() {
        PrintHouse house = new PrintHouse();
        int length = 0;
        for (int n = 1; n <= 8; n++) {
            house.put(0, n);
            length += n;
            CHECK.due("count(6)", house.count(6), length);
            house.put(0, 9);
            CHECK.due("count(6) behind a refused put", house.count(6), length);
        }
        for (int i = 0; i < 30; i++) {
            house.put(0, 8);
        }
        CHECK.due("count(6)", house.count(6), 236);
        house.put(0, 4);
        CHECK.due("count(6) of a full one", house.count(6), 240);
        house.request();
        CHECK.due("count(6) behind the request", house.count(6), 0);
    }
}
