/** Terms, the list of statuses: each at its edge, and the first of two that are the case. */
public final class EdgesOfStatusTest {

    private static final Check CHECK = new Check("EdgesOfStatusTest");
    private static final int[] OTHERS = {Request.CANCEL, Request.ASK, Request.LIST, Request.HOLD, Request.RELEASE};
    private static final int[] OF_JOBS = {Request.CANCEL, Request.ASK, Request.HOLD, Request.RELEASE};

    public static void main(String[] args) {
        CHECK.sentence("1283 the first two bytes are there and not 1, 1", EdgesOfStatusTest::otherVersions);
        CHECK.sentence("The STATUS is the first of these that is the case", "1283 before 1024",
            EdgesOfStatusTest::versionBeforeBad);
        CHECK.sentence("1281 there is no such operation", EdgesOfStatusTest::operations);
        CHECK.sentence("The STATUS is the first of these that is the case", "1024 of BAD ones before 1281",
            EdgesOfStatusTest::badBeforeOperation);
        CHECK.sentence("The STATUS is the first of these that is the case", "1281 before 1024 of groups, data and jobs",
            EdgesOfStatusTest::operationBeforeGroup);
        CHECK.sentence("1024 another one than PRINT has a second group or data", "a second group",
            EdgesOfStatusTest::secondGroups);
        CHECK.sentence("1024 another one than PRINT has a second group or data", "data", EdgesOfStatusTest::data);
        CHECK.sentence("or CANCEL, ASK, HOLD or RELEASE has no integer job in the first one", EdgesOfStatusTest::noJob);
        CHECK.sentence("(other attributes there, and all of the first group of PRINT and LIST, are "
            + "passed", "other attributes there",
            EdgesOfStatusTest::otherAttributes);
        CHECK.sentence("(other attributes there, and all of the first group of PRINT and LIST, are "
            + "passed", "of PRINT and LIST",
            EdgesOfStatusTest::passedGroups);
        CHECK.sentence("also with the name job and another tag, which is none", EdgesOfStatusTest::jobOfAnotherTag);
        CHECK.sentence("The STATUS is the first of these that is the case", "1024 before 1030 and 1028",
            EdgesOfStatusTest::groupBeforeJob);
        CHECK.sentence("1030 the job is not known", EdgesOfStatusTest::unknownJobs);
        CHECK.sentence("1030 the job is not known; then 1028 its state does not allow it",
            EdgesOfStatusTest::endedJobs);
        CHECK.sentence("The STATUS is the first of these that is the case", "1035 before 1041, 1032 and 1287",
            EdgesOfStatusTest::settingFirst);
        CHECK.sentence("The STATUS is the first of these that is the case", "1041 before 1032 and 1287",
            EdgesOfStatusTest::dataBeforeMany);
        CHECK.sentence("The STATUS is the first of these that is the case", "1032 before 1287",
            EdgesOfStatusTest::manyBeforeBlocks);
        CHECK.sentence("The STATUS is the first of these that is the case", "1024 of BAD ones before 1035 and 1041",
            EdgesOfStatusTest::badBeforeSetting);
        CHECK.end();
    }

    private static void status(String what, Request request, int want) {
        status(what, new PrintHouse(), request, want);
    }

    private static void status(String what, PrintHouse house, Request request, int want) {
        CHECK.due(what, request.send(house), want);
        CHECK.due(what + ": reply(2)", house.reply(2), want >> 8);
        CHECK.due(what + ": reply(3)", house.reply(3), want & 255);
    }

    private static Request version(int one, int two, int[] whole) {
        int[] bytes = whole.clone();
        bytes[0] = one;
        bytes[1] = two;
        return Request.raw(bytes);
    }

    private static void otherVersions() {
        status("no byte", Request.raw(), 1024);
        for (int one : new int[] {0, 1, 2, 255}) {
            status("one byte " + one, Request.raw(one), 1024);
            for (int two : new int[] {0, 1, 2, 255}) {
                boolean isOurs = one == 1 && two == 1;
                status("the bytes " + one + ", " + two, Request.raw(one, two), isOurs ? 1024 : 1283);
                status("LIST of " + one + ", " + two, version(one, two, Request.list().bytes()), isOurs ? 0 : 1283);
                Request print = version(one, two, Request.print().pages(1).bytes());
                status("PRINT of " + one + ", " + two, print, isOurs ? 0 : 1283);
                if (!isOurs) {
                    int[] cancel = Request.ofJob(Request.CANCEL, 3).bytes();
                    CHECK.leavesHouse("CANCEL of " + one + ", " + two, Scene::calm, version(one, two, cancel)::send);
                }
            }
        }
    }

    private static void versionBeforeBad() {
        status("1, 2 and a cut request", Request.raw(1, 2, 0, 10, 0, 0, 0, 0, 1), 1283);
        status("2, 1 and no such operation", Request.raw(2, 1, 0, 77, 0, 0, 0, 0, 1, 3), 1283);
        status("2, 2 and a wrong mark", Request.raw(2, 2, 0, 10, 0, 0, 0, 0, 9, 3), 1283);
    }

    private static void operations() {
        boolean[] isOne = new boolean[16];
        for (int operation : new int[] {2, 8, 9, 10, 12, 13}) {
            isOne[operation] = true;
        }
        for (int operation = 0; operation < 16; operation++) {
            if (!isOne[operation]) {
                status("operation " + operation, Request.of(operation, 0).end(), 1281);
                CHECK.leavesHouse("operation " + operation, Scene::calm, Request.ofJob(operation, 3)::send);
            }
        }
        for (int operation : new int[] {2, 8, 9, 10, 12, 13}) {
            status("operation 256 * " + operation, Request.of(operation << 8, 0).end(), 1281);
            status("operation 256 + " + operation, Request.of(256 + operation, 0).end(), 1281);
            status("operation 32768 + " + operation, Request.of(32768 + operation, 0).end(), 1281);
        }
        status("operation 65535", Request.of(65535, 0).end(), 1281);
        status("PRINT", Request.of(2, 0).pages(1), 0);
        status("LIST", Request.of(10, 0).end(), 0);
        for (int operation : OF_JOBS) {
            status("operation " + operation, Request.ofJob(operation, 1), 1030);
        }
    }

    private static void badBeforeOperation() {
        status("operation 11, cut", Request.of(11, 0), 1024);
        status("operation 11, tag 35", Request.of(11, 0).attribute(35, "a", 1).end(), 1024);
        status("operation 11, a name twice", Request.of(11, 0).bool("a", 1).bool("a", 1).end(), 1024);
        status("operation 11, a bad second group", Request.of(11, 0).second().bool("a", 2).end(), 1024);
    }

    private static void operationBeforeGroup() {
        status("operation 11, second group", Request.of(11, 0).second().end(), 1281);
        status("operation 11, data", Request.of(11, 0).end().data(1), 1281);
        status("operation 11, both", Request.of(11, 0).second().bool("a", 1).end().data(1), 1281);
    }

    private static void secondGroups() {
        for (int operation : OTHERS) {
            String of = "operation " + operation;
            status(of + ", empty", Request.of(operation, 0).integer("job", 3).second().end(), 1024);
            status(of + ", with one", Request.of(operation, 0).integer("job", 3).second().bool("a", 1).end(), 1024);
            CHECK.leavesHouse(of, Scene::calm, Request.of(operation, 0).integer("job", 3).second().end()::send);
        }
        status("PRINT, empty", Request.print().pages(1), 0);
        status("PRINT, with one", Request.print().bool("hold", 1).pages(1), 0);
    }

    private static void data() {
        for (int operation : OTHERS) {
            for (int each : new int[] {0, 3, 80, 255}) {
                String of = "operation " + operation + ", data " + each;
                Request request = Request.of(operation, 0).integer("job", 3).end().data(each);
                status(of, request, 1024);
                CHECK.leavesHouse(of, Scene::calm, request::send);
            }
            status("a page", Request.of(operation, 0).integer("job", 3).end().data(80, 2, 3, 1), 1024);
        }
    }

    private static void noJob() {
        for (int operation : OF_JOBS) {
            String of = "operation " + operation;
            status(of + ", none", Request.of(operation, 0).end(), 1024);
            status(of + ", jobs", Request.of(operation, 0).integer("jobs", 3).end(), 1024);
            status(of + ", jo", Request.of(operation, 0).integer("jo", 3).end(), 1024);
            status(of + ", in the second", Request.of(operation, 0).second().integer("job", 3).end(), 1024);
            CHECK.leavesHouse(of, Scene::calm, Request.of(operation, 0).integer("jobs", 3).end()::send);
        }
        status("LIST needs none", Request.of(Request.LIST, 0).end(), 0);
    }

    private static void otherAttributes() {
        for (int operation : OF_JOBS) {
            Request before = Request.of(operation, 0).word("user", "ann").integer("copies", 9).integer("job", 77);
            status("operation " + operation + ", others before job", before.end(), 1030);
            Request behind = Request.of(operation, 0).integer("job", 77).bool("hold", 1).integer("number", 1);
            status("operation " + operation + ", others behind job", behind.end(), 1030);
        }
        PrintHouse house = new PrintHouse();
        Scene.calm(house);
        Request hold = Request.of(Request.HOLD, 0).integer("a", 1).integer("job", 4).integer("b", 5);
        status("HOLD of 4 among others", house, hold.end(), 0);
        CHECK.due("job(4, 0)", house.job(4, 0), 4);
        CHECK.due("job(3, 0)", house.job(3, 0), 5);
    }

    private static void passedGroups() {
        Request wrong = Request.of(Request.PRINT, 0).integer("copies", 9).word("sides", "none").bool("hold", 1)
            .integer("job", 1);
        PrintHouse house = new PrintHouse();
        status("PRINT", house, wrong.pages(2), 0);
        int[] facts = {3, 1, 50, 1, 0, 0, 2, 0, 2};
        for (int what = 0; what < facts.length; what++) {
            CHECK.due("job(1, " + what + ")", house.job(1, what), facts[what]);
        }
        status("LIST", house, Request.of(Request.LIST, 0).integer("job", 99).integer("copies", 9).bool("up", 0).end(), 0);
        CHECK.due("LIST tells of job 1", house.reply(20), 1);
    }

    private static void jobOfAnotherTag() {
        for (int operation : OF_JOBS) {
            String of = "operation " + operation;
            status(of + ", a boolean job", Request.of(operation, 0).bool("job", 1).end(), 1024);
            status(of + ", a word job", Request.of(operation, 0).word("job", "one").end(), 1024);
            CHECK.leavesHouse(of + ", a boolean job", Scene::calm, Request.of(operation, 0).bool("job", 1).end()::send);
        }
        status("LIST, a word job", Request.of(Request.LIST, 0).word("job", "one").end(), 0);
        status("PRINT, a boolean job", Request.of(Request.PRINT, 0).bool("job", 1).pages(1), 0);
    }

    private static void groupBeforeJob() {
        for (int operation : OF_JOBS) {
            PrintHouse house = new PrintHouse();
            Scene.calm(house);
            for (int job : new int[] {99, 2}) {
                String of = "operation " + operation + " of job " + job;
                status(of + ", second group", house, Request.of(operation, 0).integer("job", job).second().end(), 1024);
                status(of + ", data", house, Request.of(operation, 0).integer("job", job).end().data(1), 1024);
            }
        }
    }

    private static void unknownJobs() {
        for (int operation : OF_JOBS) {
            for (int job : new int[] {0, -1, 6, 7, 256 + 3, 3 << 8, 1 << 24 | 3, Integer.MIN_VALUE, Integer.MIN_VALUE + 3,
                Integer.MAX_VALUE}) {
                String of = "operation " + operation + " of job " + job;
                PrintHouse house = new PrintHouse();
                Scene.calm(house);
                status(of, house, Request.ofJob(operation, job), 1030);
                CHECK.leavesHouse(of, Scene::calm, Request.ofJob(operation, job)::send);
            }
        }
        PrintHouse house = new PrintHouse();
        Scene.calm(house);
        status("ASK of job 1", house, Request.ofJob(Request.ASK, 1), 0);
        status("ASK of job 5", house, Request.ofJob(Request.ASK, 5), 0);
    }

    /** An ended job is known (1028), until the log is made anew (1030). */
    private static void endedJobs() {
        PrintHouse house = new PrintHouse();
        Scene.fullLog(house);
        for (int operation : new int[] {Request.CANCEL, Request.HOLD, Request.RELEASE}) {
            status("operation " + operation + " of an ended job", house, Request.ofJob(operation, 1), 1028);
        }
        status("ASK of an ended job", house, Request.ofJob(Request.ASK, 1), 0);
        status("the log is made anew", house, Request.ofJob(Request.RELEASE, 2), 0);
        for (int operation : OF_JOBS) {
            status("operation " + operation + " of a forgotten job", house, Request.ofJob(operation, 1), 1030);
        }
    }

    /** A house with 35 blocks of jobs that have not ended. */
    private static PrintHouse full() {
        PrintHouse house = new PrintHouse();
        for (int i = 0; i < 5; i++) {
            Request.of(Request.PRINT, 0).pages(6).send(house);
        }
        return house;
    }

    private static void settingFirst() {
        status("no data", Request.print().integer("copies", 4).end(), 1035);
        status("data that are no pages", Request.print().integer("copies", 0).end().data(80, 1), 1035);
        status("seven pages", Request.print().integer("up", 3).pages(7), 1035);
        status("a full house", full(), Request.print().word("sides", "two").pages(1), 1035);
        status("the last setting", Request.print().bool("hold", 1).integer("copies", 1).integer("up", 0).end(), 1035);
        status("booklet and up", Request.print().bool("booklet", 1).integer("up", 2).end(), 1035);
    }

    private static void dataBeforeMany() {
        status("seven pages and a byte", Request.print().pages(7).data(80), 1041);
        status("six pages and none", Request.print().pages(6).data(80, 2, 3), 1041);
        status("many pages and none", Request.print().pages(50).data(81, 2, 3, 1), 1041);
        status("no data in a full house", full(), Request.print().end(), 1041);
        status("no pages in a full house", full(), Request.print().end().data(80, 3, 3, 1), 1041);
    }

    private static void manyBeforeBlocks() {
        status("seven pages in a full house", full(), Request.print().pages(7), 1032);
        status("one page in a full house", full(), Request.print().pages(1), 1287);
    }

    private static void badBeforeSetting() {
        status("a wrong setting, then a bad one", Request.print().integer("copies", 9).bool("hold", 2).pages(1), 1024);
        status("a wrong setting, cut", Request.print().integer("copies", 9), 1024);
        status("a wrong setting twice", Request.print().integer("x", 9).integer("x", 9).pages(1), 1024);
        status("no end, so no data", Request.print().bool("hold", 1).data(80, 2, 3, 1), 1024);
    }
}
