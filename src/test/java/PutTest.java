/** Promise 2: put appends the lowest bytes of a number, the highest of these first, up to 240. */
public final class PutTest {

    public static void main(String[] args) {
        Check check = new Check("PutTest");
        wrongLengthsAppendNothing(check);
        theLowestBytesCount(check);
        theDraftHasRoomFor240(check);
        aDownHouseStillDrafts(check);
        check.end();
    }

    private static void wrongLengthsAppendNothing(Check check) {
        PrintHouse house = new PrintHouse();
        for (int n : new int[] {0, -1, 9, Integer.MIN_VALUE, Integer.MAX_VALUE}) {
            check.due("put(1, " + n + ")", house.put(1, n), false);
        }
        check.due("count(6)", house.count(6), 0);
        for (int n = 1; n <= 8; n++) {
            check.due("put(-1, " + n + ")", house.put(-1, n), true);
            check.due("count(6)", house.count(6), n * (n + 1) / 2);
        }
    }

    private static void theLowestBytesCount(Check check) {
        PrintHouse house = new PrintHouse();
        house.put(0x7777777777770101L, 2);
        house.put(0xff0003L, 2);
        house.put(0xfedcba98L, 4);
        house.put(0x0103L, 2);
        check.due("request()", house.request(), 1281);
        check.due("reply", Request.reply(house), "1 1 5 1 254 220 186 152 3");
        check.due("count(6)", house.count(6), 0);
    }

    private static void theDraftHasRoomFor240(Check check) {
        PrintHouse house = new PrintHouse();
        for (int i = 0; i < 29; i++) {
            house.put(0, 8);
        }
        check.due("put(0, 7) at 232", house.put(0, 7), true);
        check.due("put(0, 2) at 239", house.put(0, 2), false);
        check.due("count(6)", house.count(6), 239);
        check.due("put(0, 1) at 239", house.put(0, 1), true);
        check.due("put(0, 1) at 240", house.put(0, 1), false);
        check.due("put(0, 8) at 240", house.put(0, 8), false);
        check.due("count(6)", house.count(6), 240);
        check.due("request()", house.request(), 1283);
        check.due("put(0, 8) behind it", house.put(0, 8), true);
    }

    private static void aDownHouseStillDrafts(Check check) {
        PrintHouse house = new PrintHouse();
        house.stop(0);
        check.due("PRINT", Request.print().pages(1).send(house), PrintHouse.NONE);
        check.due("count(6)", house.count(6), 0);
        check.due("put while down", house.put(0x0101, 2), true);
        check.isDown("request() while down", house::request);
        check.due("count(6)", house.count(6), 2);
        house.restart();
        check.due("count(6) when up", house.count(6), 2);
        check.due("request()", house.request(), 1024);
    }
}
