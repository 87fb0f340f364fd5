/** Promise 9: job tells the facts of a job. */
public final class JobTest {

    private static final Check CHECK = new Check("JobTest");

    public static void main(String[] args) {
        whatWasNotTold();
        whatWasTold();
        whatIsNot();
        sheetsThatAJobHas();
        sheetsThatWereSent();
        CHECK.end();
    }

    private static void facts(PrintHouse house, int number, int... want) {
        for (int what = 0; what < want.length; what++) {
            CHECK.due("job(" + number + ", " + what + ")", house.job(number, what), want[what]);
        }
    }

    private static void whatWasNotTold() {
        PrintHouse house = new PrintHouse();
        Request.of(Request.PRINT, 0).pages(5).send(house);
        facts(house, 1, 3, 1, 50, 1, 0, 0, 5, 0, 5);
    }

    private static void whatWasTold() {
        PrintHouse house = new PrintHouse();
        Request.print().integer("copies", 3).integer("priority", 100).integer("up", 2).word("sides", "long")
            .bool("hold", 1).pages(5).send(house);
        Request.print().word("sides", "short").bool("booklet", 1).integer("priority", 1).pages(5).send(house);
        Request.print().word("sides", "one").bool("booklet", 0).bool("hold", 0).integer("up", 4).pages(1).send(house);
        facts(house, 1, 4, 3, 100, 2, 1, 0, 5, 0, 6);
        facts(house, 2, 3, 1, 1, 1, 2, 1, 5, 0, 2);
        facts(house, 3, 3, 1, 50, 4, 0, 0, 1, 0, 1);
        Request.print().pages(1).send(house);
        facts(house, 4, 3, 1, 50, 1, 0, 0, 1, 0, 1);
    }

    private static void whatIsNot() {
        PrintHouse house = new PrintHouse();
        Request.print().pages(1).send(house);
        for (int number : new int[] {0, -1, 2, Integer.MIN_VALUE, Integer.MAX_VALUE}) {
            CHECK.isNone("job(" + number + ", 0)", () -> house.job(number, 0));
        }
        for (int what : new int[] {-1, 9, Integer.MIN_VALUE, Integer.MAX_VALUE}) {
            CHECK.isNone("job(1, " + what + ")", () -> house.job(1, what));
        }
        house.stop(0);
        house.tick();
        CHECK.isDown("job(1, 0)", () -> house.job(1, 0));
        CHECK.isDown("job(2, 0)", () -> house.job(2, 0));
        CHECK.isDown("job(1, 9)", () -> house.job(1, 9));
        house.restart();
        CHECK.due("job(1, 0)", house.job(1, 0), 3);
    }

    private static void sheetsThatAJobHas() {
        int[] oneUp1 = {1, 2, 3, 4, 5, 6};
        int[] oneUp2 = {1, 1, 2, 2, 3, 3};
        int[] oneUp4 = {1, 1, 1, 1, 2, 2};
        int[] twoUp2 = {1, 1, 1, 1, 2, 2};
        int[] twoUp4 = {1, 1, 1, 1, 1, 1};
        for (int pages = 1; pages <= 6; pages++) {
            sheets(Request.print().integer("up", 1), pages, oneUp1[pages - 1]);
            sheets(Request.print().integer("up", 2), pages, oneUp2[pages - 1]);
            sheets(Request.print().integer("up", 4), pages, oneUp4[pages - 1]);
            sheets(Request.print().word("sides", "long"), pages, oneUp2[pages - 1]);
            sheets(Request.print().word("sides", "short").integer("up", 2), pages, twoUp2[pages - 1]);
            sheets(Request.print().word("sides", "long").integer("up", 4), pages, twoUp4[pages - 1]);
            sheets(Request.print().bool("booklet", 1), pages, oneUp4[pages - 1]);
            sheets(Request.print().bool("booklet", 1).integer("copies", 3), pages, 3 * oneUp4[pages - 1]);
        }
    }

    private static void sheets(Request request, int pages, int want) {
        PrintHouse house = new PrintHouse();
        request.pages(pages).send(house);
        CHECK.due("sheets of " + pages + " pages", house.job(1, 8), want);
        for (int i = 0; i < want; i++) {
            CHECK.due("state before sheet " + i, house.job(1, 0), i == 0 ? 3 : 5);
            CHECK.due("tick()", house.tick(), 1);
        }
        CHECK.due("state behind the last", house.job(1, 0), 9);
        CHECK.due("sheets sent", house.job(1, 7), want);
    }

    private static void sheetsThatWereSent() {
        PrintHouse house = new PrintHouse();
        Request.print().integer("copies", 2).pages(2).send(house);
        for (int sent = 0; sent < 3; sent++) {
            CHECK.due("job(1, 7)", house.job(1, 7), sent);
            house.tick();
        }
        Request.ofJob(Request.CANCEL, 1).send(house);
        facts(house, 1, 7, 2, 50, 1, 0, 0, 2, 3, 4);
        Request.print().bool("hold", 1).pages(1).send(house);
        Request.ofJob(Request.CANCEL, 2).send(house);
        facts(house, 2, 7, 1, 50, 1, 0, 0, 1, 0, 1);
    }
}
