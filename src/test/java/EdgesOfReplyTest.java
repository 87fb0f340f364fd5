/** Terms, replies, and Promise 4: the bytes of a reply and where it ends. */
public final class EdgesOfReplyTest {

    private static final Check CHECK = new Check("EdgesOfReplyTest");

    public static void main(String[] args) {
        CHECK.sentence("Byte k of the latest reply; NONE if it has none", EdgesOfReplyTest::bytesThatAreNot);
        CHECK.sentence("Byte k of the latest reply", "none was yet", EdgesOfReplyTest::noReplyYet);
        CHECK.sentence("Byte k of the latest reply", "a short one behind a long one", EdgesOfReplyTest::theLatest);
        CHECK.sentence("or there was none since the house went down", EdgesOfReplyTest::sinceTheHouseWentDown);
        CHECK.sentence("four bytes NUMBER (0 if the request has less than eight bytes)", EdgesOfReplyTest::numbers);
        CHECK.sentence("if the status is 0, for each job that it tells of", EdgesOfReplyTest::refusedTellOfNone);
        CHECK.sentence("PRINT, CANCEL, HOLD, RELEASE and ASK tell of the job (its new state)",
            EdgesOfReplyTest::newStates);
        CHECK.sentence("for ASK also pages, copies, priority, sent", EdgesOfReplyTest::ask);
        CHECK.sentence("sent (how many sheets of it were sent in this pass)", EdgesOfReplyTest::sent);
        CHECK.sentence("LIST of all that have not ended", "none", EdgesOfReplyTest::anEmptyList);
        CHECK.sentence("LIST of all that have not ended", EdgesOfReplyTest::endedOnesAreNotListed);
        CHECK.sentence("LIST of all that have not ended", "the most", EdgesOfReplyTest::theLongestList);
        CHECK.sentence("the PROCESSING one first", EdgesOfReplyTest::processingFirst);
        CHECK.sentence("then by falling priority", EdgesOfReplyTest::fallingPriority);
        CHECK.sentence("those alike by number", EdgesOfReplyTest::alikeByNumber);
        CHECK.end();
    }

    private static String head(int status) {
        return "1 1 " + (status >> 8) + " " + (status & 255) + " 0 0 0 0";
    }

    private static String told(int job, int state) {
        return " 2" + Request.told("job", job) + Request.told("state", state);
    }

    private static void list(String what, PrintHouse house, int... jobsAndStates) {
        StringBuilder want = new StringBuilder(head(0));
        for (int i = 0; i < jobsAndStates.length; i += 2) {
            want.append(told(jobsAndStates[i], jobsAndStates[i + 1]));
        }
        CHECK.due(what, Request.list().send(house), 0);
        CHECK.due(what + ": reply", Request.reply(house), want.append(" 3").toString());
    }

    private static void bytesThatAreNot() {
        PrintHouse house = new PrintHouse();
        Request.list().send(house);
        CHECK.due("reply(0)", house.reply(0), 1);
        CHECK.due("reply(8)", house.reply(8), 3);
        for (int k : new int[] {9, 10, 255, 256, 512, 65536, -1, -9, Integer.MIN_VALUE, Integer.MAX_VALUE}) {
            CHECK.due("reply(" + k + ")", house.reply(k), PrintHouse.NONE);
            CHECK.leavesAll("reply(" + k + ")", Scene::busy, each -> each.reply(k));
        }
        Request.print().pages(1).send(house);
        CHECK.due("reply(35) of PRINT", house.reply(35), 3);
        CHECK.due("reply(36) of PRINT", house.reply(36), PrintHouse.NONE);
    }

    private static void noReplyYet() {
        PrintHouse house = new PrintHouse();
        for (int k : new int[] {0, 1, 8, -1, Integer.MAX_VALUE}) {
            CHECK.due("reply(" + k + ")", house.reply(k), PrintHouse.NONE);
        }
        house.put(0x0101, 2);
        house.tick();
        house.stop(3);
        house.restart();
        CHECK.due("reply(0) without a request", house.reply(0), PrintHouse.NONE);
    }

    private static void theLatest() {
        PrintHouse house = new PrintHouse();
        Request.print().pages(1).send(house);
        Request.ofJob(Request.ASK, 1).send(house);
        CHECK.due("reply(9) of ASK", house.reply(9), 33);
        String asked = Request.reply(house);
        house.put(0x0102, 2);
        house.tick();
        house.stop(7);
        CHECK.due("reply behind put, tick and stop", Request.reply(house), asked);
        house.request();
        CHECK.due("reply of the next", Request.reply(house), head(1283) + " 3");
        CHECK.due("reply(9) of the next", house.reply(9), PrintHouse.NONE);
        CHECK.due("reply(94) of the next", house.reply(94), PrintHouse.NONE);
    }

    private static void sinceTheHouseWentDown() {
        PrintHouse house = new PrintHouse();
        Request.print().pages(1).send(house);
        CHECK.due("reply(0)", house.reply(0), 1);
        house.stop(0);
        CHECK.due("reply(0) with a stop set", house.reply(0), 1);
        house.tick();
        none("down in a tick", house);
        CHECK.isDown("request()", house::request);
        none("a request that threw", house);
        house.restart();
        none("up again", house);
        house.tick();
        none("a tick", house);
        Request.raw().send(house);
        CHECK.due("a BAD request: reply", Request.reply(house), head(1024) + " 3");
        house.stop(1);
        Request.print().pages(1).send(house);
        none("down in a request", house);
        house.restart();
        none("up once more", house);
        list("LIST", house);
    }

    private static void none(String when, PrintHouse house) {
        for (int k = 0; k < 9; k++) {
            CHECK.due(when + ": reply(" + k + ")", house.reply(k), PrintHouse.NONE);
        }
    }

    private static void numbers() {
        int[] bytes = {1, 1, 0, 99, 201, 202, 203, 204, 1, 3};
        for (int length = 0; length <= bytes.length; length++) {
            for (int version = 1; version <= 2; version++) {
                bytes[1] = version;
                PrintHouse house = new PrintHouse();
                int status = Request.raw(java.util.Arrays.copyOf(bytes, length)).send(house);
                String number = length < 8 ? " 0 0 0 0" : " 201 202 203 204";
                CHECK.due(length + " bytes of version " + version, Request.reply(house),
                    "1 1 " + (status >> 8) + " " + (status & 255) + number + " 3");
            }
        }
        PrintHouse house = new PrintHouse();
        Request.of(Request.LIST, Integer.MIN_VALUE).end().send(house);
        CHECK.due("the smallest number", Request.reply(house), "1 1 0 0 128 0 0 0 3");
        Request.of(Request.LIST, Integer.MAX_VALUE).end().send(house);
        CHECK.due("the largest number", Request.reply(house), "1 1 0 0 127 255 255 255 3");
        Request.raw(1, 1, 0, 10).send(house);
        CHECK.due("no number behind another one", Request.reply(house), head(1024) + " 3");
    }

    private static void refusedTellOfNone() {
        Request[] refused = {Request.ofJob(Request.RELEASE, 3), Request.ofJob(Request.CANCEL, 1),
            Request.ofJob(Request.ASK, 6), Request.print().pages(7), Request.print().end(),
            Request.print().integer("copies", 4).pages(1), Request.of(Request.LIST, 0).second().end()};
        int[] status = {1028, 1028, 1030, 1032, 1041, 1035, 1024};
        PrintHouse house = new PrintHouse();
        Scene.calm(house);
        for (int i = 0; i < refused.length; i++) {
            CHECK.due("refused " + i, refused[i].send(house), status[i]);
            CHECK.due("refused " + i + ": reply", Request.reply(house), head(status[i]) + " 3");
        }
    }

    private static void newStates() {
        PrintHouse house = new PrintHouse();
        told("PRINT", house, Request.print().pages(2), 1, 3);
        told("PRINT, held", house, Request.print().bool("hold", 1).pages(1), 2, 4);
        told("HOLD", house, Request.ofJob(Request.HOLD, 1), 1, 4);
        told("RELEASE", house, Request.ofJob(Request.RELEASE, 1), 1, 3);
        house.tick();
        told("CANCEL of a processing one", house, Request.ofJob(Request.CANCEL, 1), 1, 7);
        told("CANCEL of a held one", house, Request.ofJob(Request.CANCEL, 2), 2, 7);
    }

    private static void told(String what, PrintHouse house, Request request, int job, int state) {
        CHECK.due(what, request.send(house), 0);
        CHECK.due(what + ": reply", Request.reply(house), head(0) + told(job, state) + " 3");
    }

    private static void asked(String what, PrintHouse house, int job, int... facts) {
        CHECK.due(what, Request.ofJob(Request.ASK, job).send(house), 0);
        CHECK.due(what + ": reply", Request.reply(house), head(0) + told(job, facts[0]) + Request.told("pages", facts[1])
            + Request.told("copies", facts[2]) + Request.told("priority", facts[3]) + Request.told("sent", facts[4]) + " 3");
    }

    private static void ask() {
        PrintHouse house = new PrintHouse();
        Request.print().integer("copies", 3).integer("priority", 1).pages(6).send(house);
        Request.print().integer("priority", 100).bool("hold", 1).pages(1).send(house);
        asked("ASK of 1", house, 1, 3, 6, 3, 1, 0);
        asked("ASK of 2", house, 2, 4, 1, 1, 100, 0);
    }

    private static void sent() {
        PrintHouse house = new PrintHouse();
        Request.print().integer("copies", 2).pages(1).send(house);
        asked("ASK before a tick", house, 1, 3, 1, 2, 50, 0);
        house.tick();
        asked("ASK behind one", house, 1, 5, 1, 2, 50, 1);
        house.stop(0);
        house.tick();
        house.restart();
        asked("ASK when up again", house, 1, 5, 1, 2, 50, 0);
        PrintHouse other = new PrintHouse();
        Request.print().integer("copies", 2).pages(1).send(other);
        other.tick();
        other.tick();
        asked("ASK of a completed one", other, 1, 9, 1, 2, 50, 2);
    }

    private static void anEmptyList() {
        list("LIST of none", new PrintHouse());
        PrintHouse house = new PrintHouse();
        Request.print().pages(1).send(house);
        house.tick();
        list("LIST of one that is completed", house);
    }

    private static void endedOnesAreNotListed() {
        PrintHouse house = new PrintHouse();
        Scene.calm(house);
        list("LIST of all states", house, 3, 5, 4, 3, 5, 4);
        Request.ofJob(Request.CANCEL, 4).send(house);
        list("LIST without 4", house, 3, 5, 5, 4);
    }

    /** Looked at through two objects: a reply of 495 bytes and the calls before are more than 512. */
    private static void theLongestList() {
        StringBuilder want = new StringBuilder(head(0));
        for (int number = 18; number >= 1; number--) {
            want.append(told(number, 3));
        }
        String[] bytes = want.append(" 3").toString().split(" ");
        CHECK.due("bytes of the longest LIST", bytes.length, 495);
        for (int from = 0; from < 495; from += 250) {
            PrintHouse house = new PrintHouse();
            for (int number = 1; number <= 18; number++) {
                Request.print().integer("priority", 20 + number).pages(1).send(house);
            }
            Request.list().send(house);
            for (int k = from; k < Math.min(from + 250, 495); k++) {
                CHECK.due("reply(" + k + ")", house.reply(k), Integer.parseInt(bytes[k]));
            }
            CHECK.due("reply(495)", house.reply(495), PrintHouse.NONE);
        }
    }

    private static void processingFirst() {
        PrintHouse house = new PrintHouse();
        Request.print().integer("priority", 1).pages(2).send(house);
        house.tick();
        Request.print().integer("priority", 100).pages(1).send(house);
        Request.print().integer("priority", 1).bool("hold", 1).pages(1).send(house);
        list("LIST", house, 1, 5, 2, 3, 3, 4);
        house.tick();
        list("LIST when it has ended", house, 2, 3, 3, 4);
    }

    private static void fallingPriority() {
        PrintHouse house = new PrintHouse();
        int[] priorities = {50, 1, 100, 51, 49, 2, 99};
        for (int priority : priorities) {
            Request.print().integer("priority", priority).bool("hold", priority % 2).pages(1).send(house);
        }
        list("LIST", house, 3, 3, 7, 4, 4, 4, 1, 3, 5, 4, 6, 3, 2, 4);
    }

    private static void alikeByNumber() {
        PrintHouse house = new PrintHouse();
        for (int number = 1; number <= 4; number++) {
            Request.print().integer("priority", 50).pages(1).send(house);
        }
        Request.print().pages(1).send(house);
        list("LIST", house, 1, 3, 2, 3, 3, 3, 4, 3, 5, 3);
        Request.ofJob(Request.HOLD, 1).send(house);
        Request.ofJob(Request.HOLD, 3).send(house);
        Request.ofJob(Request.RELEASE, 1).send(house);
        list("LIST, some held", house, 1, 3, 2, 3, 3, 4, 4, 3, 5, 3);
    }
}
