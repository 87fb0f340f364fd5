/** Promise 4: reply answers the bytes of the latest reply. */
public final class ReplyTest {

    private static final Check CHECK = new Check("ReplyTest");

    public static void main(String[] args) {
        aStatusAlone();
        numbersOfRequests();
        jobsThatAreTold();
        askTellsMore();
        listIsInOrder();
        theLongestList();
        noReplyOnceTheHouseWentDown();
        CHECK.end();
    }

    private static String head(int status, int number) {
        StringBuilder text = new StringBuilder("1 1");
        for (int each : new Request().number(status, 2).number(number, 4).bytes()) {
            text.append(' ').append(each);
        }
        return text.toString();
    }

    private static String told(int job, int state) {
        return " 2" + Request.told("job", job) + Request.told("state", state);
    }

    private static void aStatusAlone() {
        PrintHouse house = new PrintHouse();
        Request.of(99, 258).end().send(house);
        CHECK.due("reply", Request.reply(house), "1 1 5 1 0 0 1 2 3");
        CHECK.due("reply(9)", house.reply(9), PrintHouse.NONE);
        CHECK.due("reply(-1)", house.reply(-1), PrintHouse.NONE);
        CHECK.due("reply(MIN)", house.reply(Integer.MIN_VALUE), PrintHouse.NONE);
        CHECK.due("reply(MAX)", house.reply(Integer.MAX_VALUE), PrintHouse.NONE);
        Request.ofJob(Request.CANCEL, 1).send(house);
        CHECK.due("reply, 1030", Request.reply(house), "1 1 4 6 0 0 0 0 3");
    }

    private static void numbersOfRequests() {
        PrintHouse house = new PrintHouse();
        Request.raw(1, 1, 0, 2, 9, 9, 9).send(house);
        CHECK.due("seven bytes", Request.reply(house), "1 1 4 0 0 0 0 0 3");
        Request.raw(1, 1, 0, 2, 9, 8, 7, 6).send(house);
        CHECK.due("eight bytes", Request.reply(house), "1 1 4 0 9 8 7 6 3");
        Request.raw(1, 2, 0, 2, 255, 8, 7, 255).send(house);
        CHECK.due("another version", Request.reply(house), "1 1 5 3 255 8 7 255 3");
        Request.raw().send(house);
        CHECK.due("no bytes", Request.reply(house), "1 1 4 0 0 0 0 0 3");
        Request.of(Request.LIST, -2).end().send(house);
        CHECK.due("a number below 0", Request.reply(house), "1 1 0 0 255 255 255 254 3");
    }

    private static void jobsThatAreTold() {
        PrintHouse house = new PrintHouse();
        Request.of(Request.PRINT, 7).pages(1).send(house);
        CHECK.due("PRINT", Request.reply(house), head(0, 7) + told(1, 3) + " 3");
        CHECK.due("PRINT, as bytes", Request.reply(house),
            "1 1 0 0 0 0 0 7 2 33 0 3 106 111 98 0 4 0 0 0 1 33 0 5 115 116 97 116 101 0 4 0 0 0 3 3");
        Request.print().bool("hold", 1).pages(1).send(house);
        CHECK.due("PRINT, held", Request.reply(house), head(0, 0) + told(2, 4) + " 3");
        Request.of(Request.HOLD, 70000).integer("job", 1).end().send(house);
        CHECK.due("HOLD", Request.reply(house), head(0, 70000) + told(1, 4) + " 3");
        Request.ofJob(Request.RELEASE, 2).send(house);
        CHECK.due("RELEASE", Request.reply(house), head(0, 0) + told(2, 3) + " 3");
        Request.ofJob(Request.CANCEL, 1).send(house);
        CHECK.due("CANCEL", Request.reply(house), head(0, 0) + told(1, 7) + " 3");
    }

    private static void askTellsMore() {
        PrintHouse house = new PrintHouse();
        Request.print().integer("copies", 2).integer("priority", 99).pages(3).send(house);
        ask(house, 3, 0);
        house.tick();
        house.tick();
        ask(house, 5, 2);
        Request.ofJob(Request.CANCEL, 1).send(house);
        ask(house, 7, 2);
    }

    private static void ask(PrintHouse house, int state, int sent) {
        Request.ofJob(Request.ASK, 1).send(house);
        CHECK.due("ASK", Request.reply(house), head(0, 0) + told(1, state) + Request.told("pages", 3)
            + Request.told("copies", 2) + Request.told("priority", 99) + Request.told("sent", sent) + " 3");
    }

    private static void listIsInOrder() {
        PrintHouse house = new PrintHouse();
        Request.print().integer("priority", 10).pages(2).send(house);
        house.tick();
        Request.print().integer("priority", 20).pages(1).send(house);
        Request.print().integer("priority", 90).bool("hold", 1).pages(1).send(house);
        Request.print().pages(1).send(house);
        Request.print().pages(1).send(house);
        Request.print().integer("priority", 100).pages(1).send(house);
        Request.ofJob(Request.CANCEL, 4).send(house);
        Request.print().pages(1).send(house);
        Request.list().send(house);
        CHECK.due("LIST", Request.reply(house), head(0, 0) + told(1, 5) + told(6, 3) + told(3, 4) + told(5, 3)
            + told(7, 3) + told(2, 3) + " 3");
        house.tick();
        Request.list().send(house);
        CHECK.due("LIST, the first completed", Request.reply(house), head(0, 0) + told(6, 3) + told(3, 4)
            + told(5, 3) + told(7, 3) + told(2, 3) + " 3");
    }

    private static void theLongestList() {
        PrintHouse house = new PrintHouse();
        StringBuilder want = new StringBuilder(head(0, 0));
        for (int number = 1; number <= 18; number++) {
            CHECK.due("PRINT " + number, Request.of(Request.PRINT, 0).pages(1).send(house), 0);
            want.append(told(number, 3));
        }
        Request.list().send(house);
        CHECK.due("reply(494)", house.reply(494), 3);
        CHECK.due("reply(495)", house.reply(495), PrintHouse.NONE);
        CHECK.due("reply(493)", house.reply(493), 3);
        PrintHouse again = new PrintHouse();
        for (int number = 1; number <= 18; number++) {
            Request.of(Request.PRINT, 0).pages(1).send(again);
        }
        Request.list().send(again);
        String[] bytes = want.append(" 3").toString().split(" ");
        for (int k = 300; k < bytes.length; k++) {
            CHECK.due("reply(" + k + ")", again.reply(k), Integer.parseInt(bytes[k]));
        }
    }

    private static void noReplyOnceTheHouseWentDown() {
        PrintHouse house = new PrintHouse();
        Request.print().pages(1).send(house);
        CHECK.due("reply(0)", house.reply(0), 1);
        house.stop(0);
        house.tick();
        CHECK.due("reply(0) while down", house.reply(0), PrintHouse.NONE);
        house.restart();
        CHECK.due("reply(0) when up", house.reply(0), PrintHouse.NONE);
        Request.list().send(house);
        CHECK.due("LIST", Request.reply(house), head(0, 0) + told(1, 3) + " 3");
        house.stop(0);
        Request.ofJob(Request.CANCEL, 1).send(house);
        CHECK.due("reply(0) of what went down", house.reply(0), PrintHouse.NONE);
    }
}
