/** Promise 2, its boundary cases: what put appends and what it refuses. */
public final class EdgesOfPutTest {

    private static final Check CHECK = new Check("EdgesOfPutTest");

    public static void main(String[] args) {
        CHECK.sentence("false if n is not 1 .. 8", EdgesOfPutTest::wrongLengths);
        CHECK.sentence("Appends the n lowest bytes of v", EdgesOfPutTest::rightLengths);
        CHECK.sentence("the highest of these first", EdgesOfPutTest::theHighestFirst);
        CHECK.sentence("BYTES are 0 .. 255", EdgesOfPutTest::bytesAreNotBelowZero);
        CHECK.sentence("or it would have more than 240", EdgesOfPutTest::roomFor240);
        CHECK.sentence("or it would have more than 240", "nothing of it is appended", EdgesOfPutTest::noPartIsAppended);
        CHECK.sentence("to the request that is drafted", "also while the house is down", EdgesOfPutTest::whileDown);
        CHECK.end();
    }

    private static void wrongLengths() {
        for (int n : new int[] {0, -1, -8, 9, 16, 256, 257, Integer.MIN_VALUE, Integer.MIN_VALUE + 1, Integer.MAX_VALUE}) {
            PrintHouse house = new PrintHouse();
            CHECK.due("put(3, " + n + ")", house.put(3, n), false);
            CHECK.due("put(3, " + n + "): count(6)", house.count(6), 0);
            CHECK.leavesAll("put(3, " + n + ")", Scene::busy, each -> each.put(3, n));
        }
    }

    private static void rightLengths() {
        for (int n = 1; n <= 8; n++) {
            for (long v : new long[] {0, -1, Long.MIN_VALUE, Long.MAX_VALUE}) {
                PrintHouse house = new PrintHouse();
                CHECK.due("put(" + v + ", " + n + ")", house.put(v, n), true);
                CHECK.due("put(" + v + ", " + n + "): count(6)", house.count(6), n);
            }
        }
    }

    /** The n bytes are the end of a request of eight bytes, whose number the reply tells. */
    private static void theHighestFirst() {
        long whole = 0x0101006301020304L;
        for (int n = 1; n <= 8; n++) {
            PrintHouse house = new PrintHouse();
            for (int i = 7; i >= n; i--) {
                house.put(whole >> 8 * i, 1);
            }
            house.put(whole ^ (n == 8 ? 0 : -1L << 8 * n), n);
            CHECK.due("put of the last " + n + ": count(6)", house.count(6), 8);
            house.request();
            CHECK.due("put of the last " + n, Request.reply(house), "1 1 4 0 1 2 3 4 3");
        }
    }

    private static void bytesAreNotBelowZero() {
        PrintHouse house = new PrintHouse();
        house.put(0x01010063L, 4);
        house.put(0xff80007fL, 4);
        house.request();
        CHECK.due("reply", Request.reply(house), "1 1 4 0 255 128 0 127 3");
        Request.print().end().data(80, 2, 253, 255, 128, 0, 127).send(house);
        CHECK.due("pixel(1, 0, 0)", house.pixel(1, 0, 0), 255);
        CHECK.due("pixel(1, 0, 1)", house.pixel(1, 0, 1), 128);
        CHECK.due("pixel(1, 0, 2)", house.pixel(1, 0, 2), 0);
        CHECK.due("pixel(1, 0, 3)", house.pixel(1, 0, 3), 127);
    }

    private static PrintHouse drafted(int length) {
        PrintHouse house = new PrintHouse();
        Request.raw(new int[length]).draft(house);
        return house;
    }

    private static void roomFor240() {
        for (int n = 1; n <= 8; n++) {
            PrintHouse fits = drafted(240 - n);
            CHECK.due("put of " + n + " to 240", fits.put(-1, n), true);
            CHECK.due("put of " + n + " to 240: count(6)", fits.count(6), 240);
            PrintHouse tooLong = drafted(241 - n);
            CHECK.due("put of " + n + " to 241", tooLong.put(-1, n), false);
            CHECK.due("put of " + n + " to 241: count(6)", tooLong.count(6), 241 - n);
            PrintHouse full = drafted(240);
            CHECK.due("put of " + n + " to a full one", full.put(-1, n), false);
            CHECK.due("put of " + n + " to a full one: count(6)", full.count(6), 240);
        }
        PrintHouse house = drafted(240);
        house.request();
        CHECK.due("put behind the request", house.put(1, 8), true);
    }

    /** The longest LIST lacks one byte: two are refused, and the one that is due ends it. */
    private static void noPartIsAppended() {
        Request longest = EdgesOfFormTest.longestList();
        int[] bytes = longest.bytes();
        CHECK.due("the longest LIST", bytes.length, 240);
        PrintHouse house = new PrintHouse();
        Request.raw(java.util.Arrays.copyOf(bytes, 239)).draft(house);
        CHECK.due("put(0x0303, 2)", house.put(0x0303, 2), false);
        CHECK.due("put(0x0300000000000000, 8)", house.put(0x0300000000000000L, 8), false);
        CHECK.due("put(3, 1)", house.put(3, 1), true);
        CHECK.due("put(3, 1) to a full one", house.put(3, 1), false);
        CHECK.due("request()", house.request(), 0);
    }

    private static void whileDown() {
        PrintHouse house = new PrintHouse();
        Scene.down(house);
        CHECK.due("count(6)", house.count(6), 9);
        CHECK.due("put(1, 0)", house.put(1, 0), false);
        CHECK.due("put(1, 9)", house.put(1, 9), false);
        CHECK.due("put(3, 1)", house.put(3, 1), true);
        CHECK.due("count(6)", house.count(6), 10);
        house.restart();
        CHECK.due("request()", house.request(), 0);
    }
}
