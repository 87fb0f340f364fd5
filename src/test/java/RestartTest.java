/** Promise 8: restart brings a house up that is down, with what was done. */
public final class RestartTest {

    private static final Check CHECK = new Check("RestartTest");

    public static void main(String[] args) {
        onlyADownHouseComesUp();
        whatWasDoneIsThere();
        passesBeginAnew();
        numbersGoOn();
        CHECK.end();
    }

    private static void goDown(PrintHouse house) {
        house.stop(0);
        CHECK.due("PRINT", Request.print().pages(1).send(house), PrintHouse.NONE);
    }

    private static void onlyADownHouseComesUp() {
        PrintHouse house = new PrintHouse();
        CHECK.due("restart() when up", house.restart(), false);
        house.stop(0);
        CHECK.due("restart() with a stop set", house.restart(), false);
        CHECK.due("PRINT", Request.print().pages(1).send(house), PrintHouse.NONE);
        CHECK.due("restart() when down", house.restart(), true);
        CHECK.due("restart() again", house.restart(), false);
        CHECK.due("count(5)", house.count(5), 1);
        CHECK.due("count(0)", house.count(0), 0);
    }

    private static void whatWasDoneIsThere() {
        PrintHouse house = new PrintHouse();
        Request.print().integer("copies", 2).integer("up", 4).word("sides", "short").end()
            .data(Request.COUNT_PAGE).send(house);
        Request.print().bool("hold", 1).bool("booklet", 1).integer("priority", 7).pages(2).send(house);
        Request.print().pages(1).send(house);
        Request.ofJob(Request.CANCEL, 3).send(house);
        int blocks = house.count(0);
        goDown(house);
        house.restart();
        int[][] want = {{3, 2, 50, 4, 2, 0, 1, 0, 2}, {4, 1, 7, 1, 0, 1, 2, 0, 1}, {7, 1, 50, 1, 0, 0, 1, 0, 1}};
        for (int number = 1; number <= 3; number++) {
            for (int what = 0; what <= 8; what++) {
                CHECK.due("job(" + number + ", " + what + ")", house.job(number, what), want[number - 1][what]);
            }
        }
        for (int at = 0; at < 12; at++) {
            CHECK.due("pixel(1, 0, " + at + ")", house.pixel(1, 0, at), at + 1);
        }
        CHECK.due("count(0)", house.count(0), blocks);
        CHECK.due("count(1)", house.count(1), blocks);
        CHECK.due("count(3)", house.count(3), 3);
        CHECK.due("count(4)", house.count(4), 4);
    }

    private static void passesBeginAnew() {
        PrintHouse house = new PrintHouse();
        Request.print().pages(3).send(house);
        Request.print().pages(2).send(house);
        house.tick();
        house.tick();
        Request.ofJob(Request.CANCEL, 1).send(house);
        CHECK.due("job(1, 7) of a canceled one", house.job(1, 7), 2);
        house.tick();
        CHECK.due("job(2, 7)", house.job(2, 7), 1);
        goDown(house);
        house.restart();
        CHECK.due("job(1, 7) once the house was down", house.job(1, 7), 0);
        CHECK.due("job(2, 7) of a pass begun anew", house.job(2, 7), 0);
        CHECK.due("job(2, 0)", house.job(2, 0), 5);
        CHECK.due("tick()", house.tick(), 2);
        CHECK.due("sheet", Request.sheet(house), "83 4 3 1 2 3 1");
        CHECK.due("tick()", house.tick(), 2);
        CHECK.due("job(2, 0)", house.job(2, 0), 9);
        goDown(house);
        house.restart();
        CHECK.due("job(2, 7) of a completed one", house.job(2, 7), 2);
        CHECK.due("ASK", Request.ofJob(Request.ASK, 2).send(house), 0);
        CHECK.due("sent", house.reply(93), 2);
    }

    private static void numbersGoOn() {
        PrintHouse house = new PrintHouse();
        for (int number = 1; number <= 14; number++) {
            CHECK.due("PRINT", Request.print().pages(1).send(house), 0);
            CHECK.due("CANCEL", Request.ofJob(Request.CANCEL, number).send(house), 0);
        }
        CHECK.due("count(3)", house.count(3), 1);
        goDown(house);
        house.restart();
        CHECK.due("count(4)", house.count(4), 15);
        CHECK.due("PRINT", Request.print().pages(1).send(house), 0);
        CHECK.due("job(15, 0)", house.job(15, 0), 3);
    }
}
