/** Terms, the disk: how many blocks each change has, the log of forty, and the log that is made anew. */
public final class EdgesOfLogTest {

    private static final Check CHECK = new Check("EdgesOfLogTest");

    public static void main(String[] args) {
        CHECK.sentence("a new job is 1 block and 1 for each page", EdgesOfLogTest::blocksOfNewJobs);
        CHECK.sentence("another state 1", EdgesOfLogTest::blocksOfStates);
        CHECK.sentence("It is written into the LOG block by block, and is done when its last block is written",
            EdgesOfLogTest::doneWithTheLast);
        CHECK.sentence("The log has 40 blocks", "a change of state", EdgesOfLogTest::fortyAndAState);
        CHECK.sentence("if there is no room for all of a transaction", EdgesOfLogTest::roomForAll);
        CHECK.sentence("(beside those that are done)", EdgesOfLogTest::besideThoseThatAreDone);
        CHECK.sentence("it is made anew first", "in a tick, at either change", EdgesOfLogTest::anewInATick);
        CHECK.sentence("it is made anew first", "behind the sheet that was sent", EdgesOfLogTest::anewBehindTheSheet);
        CHECK.sentence("for each job that has not ended its 1 block and 1 for each page", EdgesOfLogTest::whatIsKept);
        CHECK.sentence("then one more block that is not counted in the log", EdgesOfLogTest::oneMoreBlock);
        CHECK.sentence("with which the new log takes the old one's place", EdgesOfLogTest::stopsWhileMadeAnew);
        CHECK.sentence("jobs that have ended are not known then", EdgesOfLogTest::endedOnesAreForgotten);
        CHECK.sentence("jobs that have ended are not known then", "others are, with new ones",
            EdgesOfLogTest::oldAndNewJobs);
        CHECK.sentence("it is made anew first", "of no job", EdgesOfLogTest::anewOfNone);
        CHECK.sentence("jobs that have ended are not known then", "but for the one that ends behind it",
            EdgesOfLogTest::theOneThatEnds);
        CHECK.sentence("it is made anew first", "and leaves the pass as it is", EdgesOfLogTest::thePassGoesOn);
        CHECK.sentence("Numbers of jobs go on", EdgesOfLogTest::numbersGoOn);
        CHECK.end();
    }

    private static void counts(String when, PrintHouse house, int written, int logged, int known, int next) {
        CHECK.due(when + ": count(0)", house.count(0), written);
        CHECK.due(when + ": count(1)", house.count(1), logged);
        CHECK.due(when + ": count(3)", house.count(3), known);
        CHECK.due(when + ": count(4)", house.count(4), next);
    }

    private static int print(PrintHouse house, int pages) {
        return Request.of(Request.PRINT, 0).pages(pages).send(house);
    }

    private static int cancel(PrintHouse house, int number) {
        return Request.ofJob(Request.CANCEL, number).send(house);
    }

    /** HOLD and RELEASE in turns: so many blocks, of a PENDING job. */
    private static void flip(PrintHouse house, int number, int times) {
        for (int i = 0; i < times; i++) {
            int operation = i % 2 == 0 ? Request.HOLD : Request.RELEASE;
            CHECK.due("a change of state", Request.ofJob(operation, number).send(house), 0);
        }
    }

    private static void blocksOfNewJobs() {
        for (int pages = 1; pages <= 6; pages++) {
            PrintHouse house = new PrintHouse();
            print(house, pages);
            counts(pages + " pages", house, 1 + pages, 1 + pages, 1, 2);
        }
        PrintHouse house = new PrintHouse();
        Request.print().integer("copies", 3).bool("hold", 1).bool("booklet", 1).pages(2).send(house);
        counts("with settings", house, 3, 3, 1, 2);
    }

    private static void blocksOfStates() {
        PrintHouse house = new PrintHouse();
        print(house, 2);
        flip(house, 1, 2);
        counts("HOLD and RELEASE", house, 5, 5, 1, 2);
        house.tick();
        counts("PROCESSING", house, 6, 6, 1, 2);
        house.tick();
        counts("COMPLETED", house, 7, 7, 1, 2);
        print(house, 1);
        cancel(house, 2);
        counts("CANCELED", house, 10, 10, 2, 3);
        Request.list().send(house);
        Request.ofJob(Request.ASK, 1).send(house);
        house.tick();
        counts("no change", house, 10, 10, 2, 3);
    }

    private static void doneWithTheLast() {
        for (int k = 0; k <= 7; k++) {
            PrintHouse house = new PrintHouse();
            house.stop(k);
            CHECK.due("stop(" + k + ")", print(house, 6), k < 7 ? PrintHouse.NONE : 0);
            counts("stop(" + k + ")", house, k, k < 7 ? 0 : 7, k < 7 ? 0 : 1, k < 7 ? 1 : 2);
            house.restart();
            counts("stop(" + k + "), up", house, k, k < 7 ? 0 : 7, k < 7 ? 0 : 1, k < 7 ? 1 : 2);
            CHECK.due("stop(" + k + "): PRINT behind it", print(house, 1), k < 7 ? 0 : PrintHouse.NONE);
            CHECK.due("stop(" + k + "): its number", house.reply(20), k < 7 ? 1 : PrintHouse.NONE);
        }
    }

    private static void fortyAndAState() {
        PrintHouse house = new PrintHouse();
        print(house, 6);
        flip(house, 1, 32);
        counts("39 blocks", house, 39, 39, 1, 2);
        flip(house, 1, 1);
        counts("40 blocks", house, 40, 40, 1, 2);
        CHECK.due("RELEASE", Request.ofJob(Request.RELEASE, 1).send(house), 0);
        counts("one more", house, 40 + 7 + 1 + 1, 8, 1, 2);
    }

    private static void roomForAll() {
        for (int pages = 1; pages <= 6; pages++) {
            for (int left = pages; left <= pages + 1; left++) {
                PrintHouse house = new PrintHouse();
                print(house, 1);
                flip(house, 1, 40 - 2 - left);
                CHECK.due("PRINT of " + pages + " pages, room for " + left, print(house, pages), 0);
                boolean isAnew = left < 1 + pages;
                counts(pages + " pages, room for " + left, house, 40 - left + (isAnew ? 3 : 0) + 1 + pages,
                    isAnew ? 2 + 1 + pages : 40, 2, 3);
            }
        }
    }

    /** Blocks of a transaction that was not done are written, but take no room in the log. */
    private static void besideThoseThatAreDone() {
        PrintHouse house = new PrintHouse();
        print(house, 6);
        flip(house, 1, 26);
        for (int i = 0; i < 3; i++) {
            house.stop(6);
            CHECK.due("seven blocks of which six are written", print(house, 6), PrintHouse.NONE);
            house.restart();
            counts("done are 33", house, 33 + 6 * (i + 1), 33, 1, 2);
        }
        CHECK.due("seven blocks", print(house, 6), 0);
        counts("done are 40", house, 33 + 18 + 7, 40, 2, 3);
    }

    private static void anewInATick() {
        PrintHouse first = new PrintHouse();
        print(first, 1);
        flip(first, 1, 38);
        counts("40 blocks", first, 40, 40, 1, 2);
        CHECK.due("tick", first.tick(), 1);
        counts("anew at PROCESSING", first, 40 + 3 + 1 + 1, 4, 1, 2);
        PrintHouse second = new PrintHouse();
        print(second, 2);
        flip(second, 1, 36);
        CHECK.due("tick", second.tick(), 1);
        counts("40 blocks, PROCESSING", second, 40, 40, 1, 2);
        CHECK.due("tick", second.tick(), 1);
        counts("anew at COMPLETED", second, 40 + 4 + 1, 4, 1, 2);
        CHECK.due("job(1, 0)", second.job(1, 0), 9);
    }

    /** The only sheet of a job is sent between the fortieth block and a log that is made anew. */
    private static void anewBehindTheSheet() {
        for (int k = 0; k <= 5; k++) {
            PrintHouse house = new PrintHouse();
            print(house, 1);
            cancel(house, 1);
            print(house, 1);
            flip(house, 2, 34);
            counts("39 blocks", house, 39, 39, 2, 3);
            house.stop(k);
            CHECK.due("stop(" + k + "): tick", house.tick(), k < 5 ? PrintHouse.NONE : 2);
            int logged = k == 0 ? 39 : k < 4 ? 40 : k == 4 ? 2 : 3;
            counts("stop(" + k + ")", house, 39 + k, logged, k < 4 ? 2 : 1, 3);
            CHECK.due("stop(" + k + "): count(2)", house.count(2), k == 0 ? 0 : 1);
            house.restart();
            CHECK.due("stop(" + k + "): job(2, 0)", house.job(2, 0), k == 0 ? 3 : k < 5 ? 5 : 9);
            CHECK.due("stop(" + k + "): job(2, 7)", house.job(2, 7), k < 5 ? 0 : 1);
        }
    }

    private static void whatIsKept() {
        PrintHouse house = new PrintHouse();
        Request.print().integer("copies", 3).integer("priority", 60).word("sides", "short").end()
            .data(Request.COUNT_PAGE).data(Request.HALF_PAGE).send(house);
        house.tick();
        Request.print().bool("hold", 1).bool("booklet", 1).integer("priority", 7).pages(3).send(house);
        Request.print().integer("up", 4).pages(4).send(house);
        print(house, 1);
        cancel(house, 4);
        flip(house, 3, 22);
        counts("38 blocks", house, 38, 38, 4, 5);
        print(house, 2);
        counts("made anew", house, 38 + 12 + 1 + 3, 15, 4, 6);
        int[][] facts = {{5, 3, 60, 1, 2, 0, 2, 1, 3}, {4, 1, 7, 1, 0, 1, 3, 0, 1}, {3, 1, 50, 4, 0, 0, 4, 0, 1}};
        for (int number = 1; number <= 3; number++) {
            for (int what = 0; what <= 8; what++) {
                CHECK.due("job(" + number + ", " + what + ")", house.job(number, what), facts[number - 1][what]);
            }
        }
        for (int at = 0; at < 12; at++) {
            CHECK.due("pixel(1, 0, " + at + ")", house.pixel(1, 0, at), at + 1);
            CHECK.due("pixel(3, 3, " + at + ")", house.pixel(3, 3, at), 4);
            CHECK.due("pixel(5, 1, " + at + ")", house.pixel(5, 1, at), 2);
        }
        house.stop(0);
        house.tick();
        CHECK.due("the PROCESSING one is sent", house.count(5), 1);
    }

    private static void oneMoreBlock() {
        PrintHouse house = new PrintHouse();
        Scene.fullLog(house);
        counts("40 blocks", house, 40, 40, 6, 7);
        CHECK.due("RELEASE", Request.ofJob(Request.RELEASE, 2).send(house), 0);
        counts("31 blocks, one more, and one", house, 40 + 31 + 1 + 1, 31 + 1, 5, 7);
    }

    /** 31 blocks, the one more, and the one of the change, with a stop at each. */
    private static void stopsWhileMadeAnew() {
        for (int k = 0; k <= 33; k++) {
            PrintHouse house = new PrintHouse();
            Scene.fullLog(house);
            house.stop(k);
            String what = "stop(" + k + ")";
            boolean isAnew = k >= 32;
            boolean isDone = k >= 33;
            CHECK.due(what, Request.ofJob(Request.RELEASE, 2).send(house), isDone ? 0 : PrintHouse.NONE);
            CHECK.due(what + ": count(5)", house.count(5), isDone ? 1 : 0);
            counts(what, house, 40 + k, isDone ? 32 : isAnew ? 31 : 40, isAnew ? 5 : 6, 7);
            CHECK.due(what + ": restart", house.restart(), !isDone);
            counts(what + ", up", house, 40 + k, isDone ? 32 : isAnew ? 31 : 40, isAnew ? 5 : 6, 7);
            CHECK.due(what + ": job(1, 0)", Check.outcome(() -> house.job(1, 0)),
                isAnew ? "throws.IndexOutOfBoundsException" : "7");
            CHECK.due(what + ": job(2, 0)", house.job(2, 0), isDone ? 3 : 4);
            CHECK.due(what + ": job(3, 0)", house.job(3, 0), 3);
            CHECK.due(what + ": job(6, 0)", house.job(6, 0), 3);
            int before = house.count(0);
            house.stop(50);
            CHECK.due(what + ": CANCEL of 6", cancel(house, 6), 0);
            CHECK.due(what + ": blocks of it", house.count(0) - before, isAnew ? 1 : 33);
        }
    }

    private static void endedOnesAreForgotten() {
        PrintHouse house = new PrintHouse();
        print(house, 1);
        house.tick();
        print(house, 2);
        cancel(house, 2);
        print(house, 3);
        flip(house, 3, 28);
        counts("40 blocks", house, 40, 40, 3, 4);
        CHECK.due("job(1, 0)", house.job(1, 0), 9);
        CHECK.due("job(2, 0)", house.job(2, 0), 7);
        flip(house, 3, 1);
        counts("made anew", house, 40 + 4 + 1 + 1, 5, 1, 4);
        for (int number = 1; number <= 2; number++) {
            int forgotten = number;
            CHECK.isNone("job(" + number + ", 0)", () -> house.job(forgotten, 0));
            CHECK.isNone("pixel(" + number + ", 0, 0)", () -> house.pixel(forgotten, 0, 0));
            CHECK.due("ASK of " + number, Request.ofJob(Request.ASK, number).send(house), 1030);
            CHECK.due("CANCEL of " + number, cancel(house, number), 1030);
        }
        CHECK.due("job(3, 0)", house.job(3, 0), 4);
    }

    /** Behind a log made anew, new jobs and those that were kept stay apart. */
    private static void oldAndNewJobs() {
        PrintHouse house = new PrintHouse();
        print(house, 1);
        Request.print().integer("priority", 60).end().data(Request.COUNT_PAGE).send(house);
        cancel(house, 1);
        Request.print().integer("copies", 2).bool("hold", 1).end().data(Request.HALF_PAGE).send(house);
        house.tick();
        Request.print().integer("priority", 3).end().data(Request.ROW_PAGE).send(house);
        flip(house, 4, 28);
        counts("39 blocks", house, 39, 39, 4, 5);
        for (int number = 5; number <= 8; number++) {
            CHECK.due("PRINT " + number, Request.print().integer("priority", number).pages(2).send(house), 0);
        }
        counts("made anew", house, 39 + 4 + 1 + 12, 16, 6, 9);
        int[][] facts = {{4, 2, 50, 1, 0, 0, 1, 0, 2}, {3, 1, 3, 1, 0, 0, 1, 0, 1}, {3, 1, 5, 1, 0, 0, 2, 0, 2},
            {3, 1, 6, 1, 0, 0, 2, 0, 2}, {3, 1, 7, 1, 0, 0, 2, 0, 2}, {3, 1, 8, 1, 0, 0, 2, 0, 2}};
        int[] last = {8, 9, 1, 1, 1, 1};
        for (int number = 3; number <= 8; number++) {
            for (int what = 0; what <= 8; what++) {
                CHECK.due("job(" + number + ", " + what + ")", house.job(number, what), facts[number - 3][what]);
            }
            CHECK.due("pixel(" + number + ", 0, 11)", house.pixel(number, 0, 11), last[number - 3]);
        }
        CHECK.isNone("job(1, 0)", () -> house.job(1, 0));
        CHECK.isNone("job(2, 0)", () -> house.job(2, 0));
    }

    private static void anewOfNone() {
        PrintHouse house = new PrintHouse();
        print(house, 6);
        flip(house, 1, 32);
        cancel(house, 1);
        counts("40 blocks", house, 40, 40, 1, 2);
        house.stop(0);
        CHECK.due("PRINT, stopped", print(house, 1), PrintHouse.NONE);
        house.restart();
        counts("40 blocks still", house, 40, 40, 1, 2);
        house.stop(1);
        CHECK.due("PRINT, stopped behind the one more", print(house, 1), PrintHouse.NONE);
        house.restart();
        counts("an empty log", house, 41, 0, 0, 2);
        CHECK.due("PRINT", print(house, 1), 0);
        counts("a job", house, 43, 2, 1, 3);
    }

    private static void theOneThatEnds() {
        PrintHouse house = new PrintHouse();
        print(house, 6);
        flip(house, 1, 33);
        cancel(house, 1);
        counts("made anew, then CANCELED", house, 40 + 7 + 1 + 1, 8, 1, 2);
        CHECK.due("job(1, 0)", house.job(1, 0), 7);
    }

    private static void thePassGoesOn() {
        PrintHouse house = new PrintHouse();
        Request.print().integer("priority", 99).pages(3).send(house);
        house.tick();
        house.tick();
        print(house, 1);
        flip(house, 2, 33);
        counts("40 blocks", house, 40, 40, 2, 3);
        Request.ofJob(Request.RELEASE, 2).send(house);
        counts("made anew", house, 40 + 6 + 1 + 1, 7, 2, 3);
        CHECK.due("job(1, 7)", house.job(1, 7), 2);
        CHECK.due("tick", house.tick(), 1);
        CHECK.due("sheet", Request.sheet(house), "83 4 3 1 2 3 3");
        CHECK.due("job(1, 0)", house.job(1, 0), 9);
    }

    /** Forty jobs of one page, in a log that is made anew again and again. */
    private static void numbersGoOn() {
        PrintHouse house = new PrintHouse();
        for (int number = 1; number <= 40; number++) {
            CHECK.due("PRINT", print(house, 1), 0);
            CHECK.due("the reply's job", house.reply(20), number);
            CHECK.due("job(" + number + ", 7) before", house.job(number, 7), 0);
            CHECK.due("tick", house.tick(), number);
            CHECK.due("job(" + number + ", 7) behind", house.job(number, 7), 1);
            CHECK.due("job(" + number + ", 0)", house.job(number, 0), 9);
        }
        CHECK.due("count(4)", house.count(4), 41);
        CHECK.due("count(2)", house.count(2), 40);
        house.stop(0);
        CHECK.due("PRINT, stopped", print(house, 1), PrintHouse.NONE);
        house.restart();
        CHECK.due("count(4), up again", house.count(4), 41);
    }
}
