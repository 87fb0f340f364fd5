/** Promise 8, its boundary cases: what a house has when it comes up, and a restart of one that is up. */
public final class EdgesOfRestartTest {

    private static final Check CHECK = new Check("EdgesOfRestartTest");

    public static void main(String[] args) {
        CHECK.sentence("false if it is not down", EdgesOfRestartTest::notDown);
        CHECK.sentence("The house comes up: true", EdgesOfRestartTest::comesUp);
        CHECK.sentence("When it comes up it has what was done", EdgesOfRestartTest::whatWasDone);
        CHECK.sentence("a PROCESSING job begins its pass anew", EdgesOfRestartTest::passesBeginAnew);
        CHECK.sentence("a PROCESSING job begins its pass anew", "of copies: from the first",
            EdgesOfRestartTest::copies);
        CHECK.sentence("it has what was done", "nothing", EdgesOfRestartTest::nothingWasDone);
        CHECK.sentence("the house is DOWN", "again and again", EdgesOfRestartTest::againAndAgain);
        CHECK.end();
    }

    private static void notDown() {
        CHECK.due("restart() of a new one", new PrintHouse().restart(), false);
        PrintHouse house = new PrintHouse();
        Scene.busy(house);
        CHECK.due("restart() of a busy one", house.restart(), false);
        CHECK.due("job(2, 7) of a canceled one", house.job(2, 7), 1);
        CHECK.due("job(3, 7) of a processing one", house.job(3, 7), 1);
        CHECK.leavesAll("restart()", Scene::busy, PrintHouse::restart);
        CHECK.leavesAll("restart()", Scene::calm, PrintHouse::restart);
    }

    private static void comesUp() {
        PrintHouse house = new PrintHouse();
        Scene.down(house);
        CHECK.due("count(5) while down", house.count(5), 0);
        CHECK.due("restart()", house.restart(), true);
        CHECK.due("count(5) when up", house.count(5), 1);
        CHECK.due("restart() again", house.restart(), false);
        CHECK.due("count(5) still", house.count(5), 1);
        CHECK.leavesAll("restart() twice", ((View.Run) Scene::down).then(PrintHouse::restart), PrintHouse::restart);
    }

    private static void whatWasDone() {
        PrintHouse house = new PrintHouse();
        Scene.down(house);
        int[] down = {22, 19, 3, 5, 6, 0, 9};
        for (int what = 0; what < down.length; what++) {
            CHECK.due("count(" + what + ") while down", house.count(what), down[what]);
        }
        house.restart();
        for (int what = 0; what < down.length; what++) {
            CHECK.due("count(" + what + ") when up", house.count(what), what == 5 ? 1 : down[what]);
        }
        int[][] facts = {{9, 1, 50, 1, 0, 0, 1, 1, 1}, {7, 1, 50, 1, 0, 0, 2, 0, 2}, {5, 2, 50, 1, 0, 0, 2, 0, 4},
            {3, 1, 70, 2, 2, 0, 2, 0, 1}, {4, 1, 50, 1, 0, 1, 2, 0, 1}};
        for (int number = 1; number <= 5; number++) {
            for (int what = 0; what <= 8; what++) {
                CHECK.due("job(" + number + ", " + what + ")", house.job(number, what), facts[number - 1][what]);
            }
        }
        for (int at = 0; at < 12; at++) {
            CHECK.due("pixel(3, 0, " + at + ")", house.pixel(3, 0, at), at + 1);
            CHECK.due("pixel(3, 1, " + at + ")", house.pixel(3, 1, at), at % 4 < 2 ? 7 : 8);
        }
        CHECK.isNone("job(6, 0)", () -> house.job(6, 0));
        CHECK.due("reply(0)", house.reply(0), PrintHouse.NONE);
    }

    private static void passesBeginAnew() {
        PrintHouse house = new PrintHouse();
        Scene.down(house);
        house.restart();
        CHECK.due("job(3, 0)", house.job(3, 0), 5);
        CHECK.due("job(3, 7)", house.job(3, 7), 0);
        int blocks = house.count(0);
        CHECK.due("tick", house.tick(), 3);
        CHECK.due("the first sheet", Request.sheet(house), "83 4 3 1 0 253 1 2 3 4 0 253 5 6 7 8 0 253 9 10 11 12");
        CHECK.due("it is PROCESSING already: count(0)", house.count(0), blocks);
        CHECK.due("job(3, 7)", house.job(3, 7), 1);
    }

    private static void copies() {
        PrintHouse house = new PrintHouse();
        Request.print().integer("copies", 2).pages(3).send(house);
        for (int i = 0; i < 4; i++) {
            house.tick();
        }
        CHECK.due("job(1, 7) before", house.job(1, 7), 4);
        house.stop(0);
        CHECK.due("PRINT", Request.print().pages(1).send(house), PrintHouse.NONE);
        house.restart();
        int[] pages = {1, 2, 3, 1, 2, 3};
        for (int i = 0; i < pages.length; i++) {
            CHECK.due("job(1, 7) before sheet " + i, house.job(1, 7), i);
            CHECK.due("tick", house.tick(), 1);
            CHECK.due("sheet " + i, Request.sheet(house), "83 4 3 1 2 3 " + pages[i]);
        }
        CHECK.due("job(1, 0)", house.job(1, 0), 9);
        CHECK.due("count(2)", house.count(2), 10);
    }

    private static void nothingWasDone() {
        PrintHouse house = new PrintHouse();
        house.stop(6);
        CHECK.due("PRINT", Request.print().pages(6).send(house), PrintHouse.NONE);
        house.restart();
        int[] counts = {6, 0, 0, 0, 1, 1, 0};
        for (int what = 0; what < counts.length; what++) {
            CHECK.due("count(" + what + ")", house.count(what), counts[what]);
        }
        CHECK.isNone("job(1, 0)", () -> house.job(1, 0));
        CHECK.due("LIST", Request.list().send(house), 0);
        CHECK.due("reply", Request.reply(house), "1 1 0 0 0 0 0 0 3");
    }

    private static void againAndAgain() {
        PrintHouse house = new PrintHouse();
        Request.print().pages(1).send(house);
        for (int i = 1; i <= 5; i++) {
            house.stop(0);
            CHECK.due("tick", house.tick(), PrintHouse.NONE);
            CHECK.due("restart()", house.restart(), true);
            CHECK.due("job(1, 0)", house.job(1, 0), 3);
            CHECK.due("count(0)", house.count(0), 2);
        }
        CHECK.due("tick", house.tick(), 1);
        CHECK.due("job(1, 0)", house.job(1, 0), 9);
    }
}
