/** Promise 6, its boundary cases: which bytes the latest sheet has, and that it stays. */
public final class EdgesOfSheetTest {

    private static final Check CHECK = new Check("EdgesOfSheetTest");

    public static void main(String[] args) {
        CHECK.sentence("NONE if it has none", EdgesOfSheetTest::bytesThatAreNot);
        CHECK.sentence("or none was", EdgesOfSheetTest::noneWasSent);
        CHECK.sentence("the latest sheet that was sent", "a short one behind a long one", EdgesOfSheetTest::theLatest);
        CHECK.sentence("the latest sheet that was sent", "it stays", EdgesOfSheetTest::itStays);
        CHECK.end();
    }

    private static void bytesThatAreNot() {
        PrintHouse house = new PrintHouse();
        Request.print().pages(1).send(house);
        house.tick();
        int[] bytes = {83, 4, 3, 1, 2, 3, 1};
        for (int k = 0; k < bytes.length; k++) {
            CHECK.due("sheet(" + k + ")", house.sheet(k), bytes[k]);
        }
        for (int k : new int[] {7, 8, 255, 256, 65536, -1, -7, Integer.MIN_VALUE, Integer.MAX_VALUE}) {
            CHECK.due("sheet(" + k + ")", house.sheet(k), PrintHouse.NONE);
            CHECK.leavesAll("sheet(" + k + ")", Scene::busy, each -> each.sheet(k));
        }
    }

    private static void noneWasSent() {
        PrintHouse house = new PrintHouse();
        none("a new object", house);
        Request.print().bool("hold", 1).pages(1).send(house);
        house.tick();
        none("a tick without one", house);
        Request.ofJob(Request.RELEASE, 1).send(house);
        house.stop(0);
        house.tick();
        none("down before the first", house);
        house.restart();
        none("up again", house);
        house.tick();
        CHECK.due("sheet(0)", house.sheet(0), 83);
    }

    private static void none(String when, PrintHouse house) {
        for (int k : new int[] {0, 1, 6, -1, Integer.MAX_VALUE}) {
            CHECK.due(when + ": sheet(" + k + ")", house.sheet(k), PrintHouse.NONE);
        }
    }

    private static void theLatest() {
        PrintHouse house = new PrintHouse();
        Request.print().end().data(Request.COUNT_PAGE).data(80, 2, 3, 1).send(house);
        house.tick();
        CHECK.due("sheet(21)", house.sheet(21), 12);
        CHECK.due("sheet(22)", house.sheet(22), PrintHouse.NONE);
        house.tick();
        CHECK.due("sheet", Request.sheet(house), "83 4 3 1 2 3 1");
        CHECK.due("sheet(7)", house.sheet(7), PrintHouse.NONE);
        CHECK.due("sheet(21)", house.sheet(21), PrintHouse.NONE);
    }

    private static void itStays() {
        PrintHouse house = new PrintHouse();
        Request.print().pages(1).send(house);
        house.tick();
        stays("a tick without one", house, house.tick(), 0);
        stays("PRINT", house, Request.print().end().data(Request.COUNT_PAGE).send(house), 0);
        stays("LIST", house, Request.list().send(house), 0);
        stays("a BAD request", house, Request.raw().send(house), 1024);
        house.stop(0);
        stays("down in a tick", house, house.tick(), PrintHouse.NONE);
        house.restart();
        stays("up again", house, house.count(5), 1);
        stays("CANCEL", house, Request.ofJob(Request.CANCEL, 2).send(house), 0);
        house.stop(1);
        stays("down in a request", house, Request.print().pages(1).send(house), PrintHouse.NONE);
    }

    private static void stays(String behind, PrintHouse house, int got, int want) {
        CHECK.due(behind, got, want);
        CHECK.due("the sheet behind " + behind, Request.sheet(house), "83 4 3 1 2 3 1");
    }
}
