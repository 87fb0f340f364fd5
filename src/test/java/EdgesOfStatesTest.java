/** Terms, jobs: their numbers, their states, and which request is allowed in which state. */
public final class EdgesOfStatesTest {

    private static final Check CHECK = new Check("EdgesOfStatesTest");

    public static void main(String[] args) {
        CHECK.sentence("A JOB has a number (1, 2, .., as they come)", EdgesOfStatesTest::numbers);
        CHECK.sentence("CANCEL: a job that has not ended is canceled", EdgesOfStatesTest::cancel);
        CHECK.sentence("HOLD: a PENDING one is HELD", EdgesOfStatesTest::hold);
        CHECK.sentence("RELEASE: the other way round", EdgesOfStatesTest::release);
        CHECK.sentence("ASK is allowed in all states", EdgesOfStatesTest::ask);
        CHECK.sentence("(the last two have ENDED)", "they stay as they are", EdgesOfStatesTest::endedOnesStay);
        CHECK.sentence("another state 1", "ASK and LIST change none", EdgesOfStatesTest::whatWritesNothing);
        CHECK.end();
    }

    private static void numbers() {
        PrintHouse house = new PrintHouse();
        for (int number = 1; number <= 3; number++) {
            CHECK.due("PRINT", Request.print().pages(1).send(house), 0);
            CHECK.due("the reply's job", house.reply(20), number);
            CHECK.due("PRINT, refused", Request.print().pages(7).send(house), 1032);
            CHECK.due("count(4)", house.count(4), number + 1);
        }
        Request.ofJob(Request.CANCEL, 3).send(house);
        CHECK.due("PRINT behind a canceled one", Request.print().pages(1).send(house), 0);
        CHECK.due("the reply's job", house.reply(20), 4);
    }

    /** What becomes of each of the jobs of Scene.calm: 0 stands for 1028. */
    private static void outcomes(int operation, int... becomes) {
        int[] states = Scene.states();
        for (int number = 1; number <= states.length; number++) {
            String what = "operation " + operation + " in state " + states[number - 1];
            int want = becomes[number - 1];
            PrintHouse house = new PrintHouse();
            Scene.calm(house);
            int blocks = house.count(0);
            Request request = Request.ofJob(operation, number);
            CHECK.due(what + ": before", house.job(number, 0), states[number - 1]);
            CHECK.due(what, request.send(house), want == 0 ? 1028 : 0);
            CHECK.due(what + ": job(.., 0)", house.job(number, 0), want == 0 ? states[number - 1] : want);
            CHECK.due(what + ": reply(34)", house.reply(34), want == 0 ? PrintHouse.NONE : want);
            CHECK.due(what + ": count(0)", house.count(0) - blocks, want == 0 || operation == Request.ASK ? 0 : 1);
            CHECK.due(what + ": count(3)", house.count(3), 5);
            if (want == 0) {
                CHECK.leavesHouse(what, Scene::calm, request::send);
            }
            for (int other = 1; other <= states.length; other++) {
                if (other != number) {
                    CHECK.due(what + ": another job", house.job(other, 0), states[other - 1]);
                }
            }
        }
    }

    private static void cancel() {
        outcomes(Request.CANCEL, 0, 0, 7, 7, 7);
    }

    private static void hold() {
        outcomes(Request.HOLD, 0, 0, 0, 4, 0);
    }

    private static void release() {
        outcomes(Request.RELEASE, 0, 0, 0, 0, 3);
    }

    private static void ask() {
        outcomes(Request.ASK, Scene.states());
    }

    private static void endedOnesStay() {
        PrintHouse house = new PrintHouse();
        Request.print().pages(1).send(house);
        Request.ofJob(Request.CANCEL, 1).send(house);
        CHECK.due("CANCEL twice", Request.ofJob(Request.CANCEL, 1).send(house), 1028);
        CHECK.due("tick", house.tick(), 0);
        CHECK.due("job(1, 0)", house.job(1, 0), 7);
        Request.print().pages(1).send(house);
        CHECK.due("tick of the next", house.tick(), 2);
        CHECK.due("CANCEL of a completed one", Request.ofJob(Request.CANCEL, 2).send(house), 1028);
        CHECK.due("tick behind it", house.tick(), 0);
        CHECK.due("job(2, 0)", house.job(2, 0), 9);
        CHECK.due("job(2, 7)", house.job(2, 7), 1);
    }

    private static void whatWritesNothing() {
        PrintHouse house = new PrintHouse();
        Scene.calm(house);
        house.stop(0);
        int blocks = house.count(0);
        for (int number = 1; number <= 5; number++) {
            CHECK.due("ASK of " + number, Request.ofJob(Request.ASK, number).send(house), 0);
        }
        CHECK.due("LIST", Request.list().send(house), 0);
        CHECK.due("ASK of none", Request.ofJob(Request.ASK, 6).send(house), 1030);
        CHECK.due("HOLD, not allowed", Request.ofJob(Request.HOLD, 1).send(house), 1028);
        CHECK.due("count(0)", house.count(0), blocks);
        CHECK.due("count(5)", house.count(5), 1);
        CHECK.leavesHouse("ASK", Scene::calm, Request.ofJob(Request.ASK, 3)::send);
        CHECK.leavesHouse("LIST", Scene::calm, Request.list()::send);
    }
}
