/** Promise 1: a new object is up, has no jobs, an empty log and nothing drafted. */
public final class NewObjectTest {

    public static void main(String[] args) {
        Check check = new Check("NewObjectTest");
        PrintHouse house = new PrintHouse();
        int[] counts = {0, 0, 0, 0, 1, 1, 0};
        for (int what = 0; what < counts.length; what++) {
            check.due("count(" + what + ")", house.count(what), counts[what]);
        }
        check.due("reply(0)", house.reply(0), PrintHouse.NONE);
        check.due("sheet(0)", house.sheet(0), PrintHouse.NONE);
        check.due("restart()", house.restart(), false);
        check.due("tick()", house.tick(), 0);
        check.isNone("job(0, 0)", () -> house.job(0, 0));
        check.isNone("job(1, 0)", () -> house.job(1, 0));
        check.isNone("pixel(1, 0, 0)", () -> house.pixel(1, 0, 0));
        check.due("LIST", Request.list().send(house), 0);
        check.due("reply", Request.reply(house), "1 1 0 0 0 0 0 0 3");
        check.due("NONE", PrintHouse.NONE, -1);
        aSecondObjectIsApart(check);
        check.end();
    }

    private static void aSecondObjectIsApart(Check check) {
        PrintHouse one = new PrintHouse();
        PrintHouse other = new PrintHouse();
        Request.print().pages(1).send(one);
        check.due("count(3) of the one", one.count(3), 1);
        check.due("count(3) of the other", other.count(3), 0);
        check.due("reply(0) of the other", other.reply(0), PrintHouse.NONE);
    }
}
