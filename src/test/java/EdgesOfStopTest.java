/** Terms, a STOP, and Promise 7: after how many blocks, and what a refused stop leaves. */
public final class EdgesOfStopTest {

    private static final Check CHECK = new Check("EdgesOfStopTest");

    public static void main(String[] args) {
        CHECK.sentence("false if k is less than 0", EdgesOfStopTest::belowZero);
        CHECK.sentence("false if k is less than 0", "the one that is set stays", EdgesOfStopTest::theOtherStays);
        CHECK.sentence("Sets a stop after k blocks", EdgesOfStopTest::zeroAndMore);
        CHECK.sentence("when k were written since, the next one is not", EdgesOfStopTest::theNextOneIsNot);
        CHECK.sentence("when k were written since", "in several transactions", EdgesOfStopTest::severalTransactions);
        CHECK.sentence("the next one is not", "until then the house is up", EdgesOfStopTest::upUntilThen);
        CHECK.sentence("what would follow is not done", EdgesOfStopTest::whatWouldFollow);
        CHECK.sentence("in place of one that is set", EdgesOfStopTest::inPlaceOfOne);
        CHECK.sentence("A stop is over when the house goes down", EdgesOfStopTest::overWhenDown);
        CHECK.sentence("IllegalStateException: the house is down (first of all)", EdgesOfStopTest::whileDown);
        CHECK.end();
    }

    private static int print(PrintHouse house, int pages) {
        return Request.of(Request.PRINT, 0).pages(pages).send(house);
    }

    private static void belowZero() {
        for (int k : new int[] {-1, -2, -40, Integer.MIN_VALUE}) {
            PrintHouse house = new PrintHouse();
            CHECK.due("stop(" + k + ")", house.stop(k), false);
            CHECK.due("stop(" + k + "): PRINT", print(house, 6), 0);
            CHECK.due("stop(" + k + "): count(5)", house.count(5), 1);
            CHECK.leavesAll("stop(" + k + ")", Scene::calm, each -> each.stop(k));
        }
    }

    private static void theOtherStays() {
        for (int k : new int[] {-1, Integer.MIN_VALUE}) {
            CHECK.leavesAll("stop(" + k + ") behind stop(5)", Scene::busy, each -> each.stop(k));
            PrintHouse house = new PrintHouse();
            house.stop(2);
            CHECK.due("stop(" + k + ")", house.stop(k), false);
            CHECK.due("PRINT of two blocks", print(house, 1), 0);
            CHECK.due("PRINT of two more", print(house, 1), PrintHouse.NONE);
        }
    }

    private static void zeroAndMore() {
        PrintHouse house = new PrintHouse();
        CHECK.due("stop(0)", house.stop(0), true);
        CHECK.due("stop(1)", house.stop(1), true);
        CHECK.due("stop(MAX)", house.stop(Integer.MAX_VALUE), true);
        for (int number = 1; number <= 5; number++) {
            CHECK.due("PRINT", print(house, 6), 0);
        }
        CHECK.due("count(5)", house.count(5), 1);
        CHECK.due("count(0)", house.count(0), 35);
    }

    private static void theNextOneIsNot() {
        for (int k = 0; k <= 4; k++) {
            PrintHouse house = new PrintHouse();
            print(house, 2);
            house.stop(k);
            CHECK.due("stop(" + k + "): PRINT of four blocks", print(house, 3), k < 4 ? PrintHouse.NONE : 0);
            CHECK.due("stop(" + k + "): count(0)", house.count(0), 3 + k);
            CHECK.due("stop(" + k + "): count(1)", house.count(1), k < 4 ? 3 : 7);
            CHECK.due("stop(" + k + "): count(5)", house.count(5), k < 4 ? 0 : 1);
        }
    }

    private static void severalTransactions() {
        PrintHouse house = new PrintHouse();
        house.stop(6);
        CHECK.due("blocks 1 and 2", print(house, 1), 0);
        CHECK.due("block 3", Request.ofJob(Request.HOLD, 1).send(house), 0);
        CHECK.due("block 4", Request.ofJob(Request.RELEASE, 1).send(house), 0);
        CHECK.due("blocks 5 and 6", house.tick(), 1);
        CHECK.due("no block", house.tick(), 0);
        CHECK.due("count(5)", house.count(5), 1);
        CHECK.due("block 7", print(house, 1), PrintHouse.NONE);
        CHECK.due("count(0)", house.count(0), 6);
    }

    private static void upUntilThen() {
        PrintHouse house = new PrintHouse();
        print(house, 3);
        house.tick();
        CHECK.due("stop(0)", house.stop(0), true);
        CHECK.due("count(5)", house.count(5), 1);
        CHECK.due("a sheet without a block", house.tick(), 1);
        CHECK.due("ASK", Request.ofJob(Request.ASK, 1).send(house), 0);
        CHECK.due("LIST", Request.list().send(house), 0);
        CHECK.due("a refused PRINT", print(house, 7), 1032);
        CHECK.due("a refused HOLD", Request.ofJob(Request.HOLD, 1).send(house), 1028);
        CHECK.due("job(1, 7)", house.job(1, 7), 2);
        CHECK.due("restart()", house.restart(), false);
        CHECK.due("count(5)", house.count(5), 1);
        CHECK.due("the last sheet", house.tick(), PrintHouse.NONE);
        CHECK.due("count(5)", house.count(5), 0);
        CHECK.due("count(2)", house.count(2), 3);
    }

    private static void whatWouldFollow() {
        PrintHouse house = new PrintHouse();
        print(house, 1);
        house.stop(0);
        CHECK.due("CANCEL", Request.ofJob(Request.CANCEL, 1).send(house), PrintHouse.NONE);
        CHECK.due("reply(0)", house.reply(0), PrintHouse.NONE);
        house.restart();
        CHECK.due("job(1, 0)", house.job(1, 0), 3);
        house.stop(0);
        CHECK.due("tick", house.tick(), PrintHouse.NONE);
        CHECK.due("sheet(0)", house.sheet(0), PrintHouse.NONE);
        CHECK.due("count(2)", house.count(2), 0);
        house.restart();
        CHECK.due("job(1, 0)", house.job(1, 0), 3);
    }

    private static void inPlaceOfOne() {
        int[][] stops = {{0, 4}, {4, 0}, {1, 1}, {Integer.MAX_VALUE, 2}, {2, Integer.MAX_VALUE}};
        for (int[] two : stops) {
            PrintHouse house = new PrintHouse();
            house.stop(two[0]);
            CHECK.due("stop(" + two[1] + ")", house.stop(two[1]), true);
            boolean isDone = two[1] >= 4;
            CHECK.due("stop(" + two[0] + "), stop(" + two[1] + ")", print(house, 3), isDone ? 0 : PrintHouse.NONE);
            CHECK.due("count(0)", house.count(0), Math.min(4, two[1]));
        }
        PrintHouse house = new PrintHouse();
        house.stop(3);
        print(house, 1);
        house.stop(3);
        CHECK.due("counted from the later one", print(house, 2), 0);
        CHECK.due("one more", print(house, 1), PrintHouse.NONE);
        CHECK.due("count(0)", house.count(0), 5);
    }

    private static void overWhenDown() {
        PrintHouse house = new PrintHouse();
        house.stop(1);
        CHECK.due("PRINT", print(house, 1), PrintHouse.NONE);
        house.restart();
        for (int number = 1; number <= 5; number++) {
            CHECK.due("PRINT behind it", print(house, 6), 0);
        }
        CHECK.due("count(5)", house.count(5), 1);
        CHECK.due("count(0)", house.count(0), 1 + 35);
    }

    private static void whileDown() {
        for (int k : new int[] {0, 1, 5, Integer.MAX_VALUE, -1, Integer.MIN_VALUE}) {
            PrintHouse house = new PrintHouse();
            Scene.down(house);
            CHECK.isDown("stop(" + k + ")", () -> house.stop(k) ? 1 : 0);
            CHECK.leavesAll("stop(" + k + ")", Scene::down, each -> Check.outcome(() -> each.stop(k) ? 1 : 0));
            house.restart();
            house.request();
            CHECK.due("stop(" + k + ") sets none: PRINT", print(house, 3), 0);
        }
    }
}
