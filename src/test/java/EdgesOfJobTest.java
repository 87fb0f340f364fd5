/** Promise 9, its boundary cases: which jobs and which facts there are, and the sheets that were sent. */
public final class EdgesOfJobTest {

    private static final Check CHECK = new Check("EdgesOfJobTest");

    public static void main(String[] args) {
        CHECK.sentence("IndexOutOfBoundsException if it is not known", EdgesOfJobTest::notKnown);
        CHECK.sentence("or there is no such what", EdgesOfJobTest::noSuchWhat);
        CHECK.sentence("7 how many sheets were sent in this pass (all, if it is COMPLETED", EdgesOfJobTest::completed);
        CHECK.sentence("if it is CANCELED as many as then", EdgesOfJobTest::canceled);
        CHECK.sentence("but 0 once the house was down", EdgesOfJobTest::canceledAndDown);
        CHECK.sentence("else 0 unless it is PROCESSING", EdgesOfJobTest::otherStates);
        CHECK.sentence("8 how many it has", EdgesOfJobTest::howManyItHas);
        CHECK.sentence("3 up, 4 sides (0 one, 1 long, 2 short), 5 booklet", EdgesOfJobTest::settings);
        CHECK.end();
    }

    private static void none(PrintHouse house, int number, int what) {
        CHECK.isNone("job(" + number + ", " + what + ")", () -> house.job(number, what));
        CHECK.leavesAll("job(" + number + ", " + what + ")", Scene::busy, each -> Check.outcome(() -> each.job(number, what)));
    }

    private static void notKnown() {
        PrintHouse house = new PrintHouse();
        Scene.busy(house);
        for (int number : new int[] {0, -1, -3, 6, 7, 19, 20, 259, Integer.MIN_VALUE, Integer.MIN_VALUE + 3, Integer.MAX_VALUE}) {
            none(house, number, 0);
            none(house, number, 8);
            none(house, number, 9);
        }
        for (int number = 1; number <= 5; number++) {
            CHECK.due("job(" + number + ", 0)", house.job(number, 0), Scene.states()[number - 1]);
        }
        PrintHouse empty = new PrintHouse();
        for (int number : new int[] {0, 1, -1}) {
            CHECK.isNone("job(" + number + ", 0) of an empty house", () -> empty.job(number, 0));
        }
        Request.print().pages(7).send(empty);
        CHECK.isNone("job(1, 0) behind a refused PRINT", () -> empty.job(1, 0));
    }

    private static void noSuchWhat() {
        PrintHouse house = new PrintHouse();
        Scene.busy(house);
        for (int what : new int[] {-1, 9, 10, 256, -256, Integer.MIN_VALUE, Integer.MAX_VALUE}) {
            none(house, 3, what);
        }
        int[] facts = {5, 2, 50, 1, 0, 0, 2, 1, 4};
        for (int what = 0; what <= 8; what++) {
            CHECK.due("job(3, " + what + ")", house.job(3, what), facts[what]);
            int asked = what;
            CHECK.leavesAll("job(3, " + what + ")", Scene::busy, each -> each.job(3, asked));
        }
    }

    private static void down(PrintHouse house) {
        house.stop(0);
        CHECK.due("PRINT", Request.print().pages(1).send(house), PrintHouse.NONE);
        house.restart();
    }

    private static void completed() {
        PrintHouse house = new PrintHouse();
        Request.print().integer("copies", 3).pages(2).send(house);
        for (int sent = 0; sent <= 6; sent++) {
            CHECK.due("job(1, 7)", house.job(1, 7), sent);
            CHECK.due("tick", house.tick(), sent < 6 ? 1 : 0);
        }
        CHECK.due("job(1, 0)", house.job(1, 0), 9);
        CHECK.due("job(1, 7)", house.job(1, 7), 6);
        down(house);
        CHECK.due("job(1, 7) once the house was down", house.job(1, 7), 6);
    }

    private static void canceled() {
        for (int sent = 0; sent <= 3; sent++) {
            PrintHouse house = new PrintHouse();
            Request.print().integer("copies", 2).pages(2).send(house);
            for (int i = 0; i < sent; i++) {
                house.tick();
            }
            Request.ofJob(Request.CANCEL, 1).send(house);
            CHECK.due("job(1, 7) canceled behind " + sent, house.job(1, 7), sent);
            Request.print().pages(2).send(house);
            house.tick();
            CHECK.due("job(1, 7) while another is sent", house.job(1, 7), sent);
            CHECK.due("job(1, 8)", house.job(1, 8), 4);
        }
    }

    private static void canceledAndDown() {
        PrintHouse house = new PrintHouse();
        Request.print().pages(3).send(house);
        house.tick();
        house.tick();
        house.stop(0);
        CHECK.due("CANCEL that is not done", Request.ofJob(Request.CANCEL, 1).send(house), PrintHouse.NONE);
        house.restart();
        CHECK.due("job(1, 0)", house.job(1, 0), 5);
        CHECK.due("job(1, 7)", house.job(1, 7), 0);
        house.tick();
        Request.ofJob(Request.CANCEL, 1).send(house);
        CHECK.due("job(1, 7) as many as then", house.job(1, 7), 1);
        down(house);
        CHECK.due("job(1, 7) once the house was down", house.job(1, 7), 0);
        CHECK.due("job(1, 0)", house.job(1, 0), 7);
    }

    private static void otherStates() {
        PrintHouse house = new PrintHouse();
        Request.print().pages(2).send(house);
        CHECK.due("PENDING", house.job(1, 7), 0);
        Request.ofJob(Request.HOLD, 1).send(house);
        CHECK.due("HELD", house.job(1, 7), 0);
        Request.ofJob(Request.RELEASE, 1).send(house);
        CHECK.due("PENDING again", house.job(1, 7), 0);
        house.tick();
        CHECK.due("PROCESSING", house.job(1, 7), 1);
        Request.print().pages(1).send(house);
        CHECK.due("PENDING while another is sent", house.job(2, 7), 0);
    }

    private static void has(String what, Request open, int pages, int want) {
        PrintHouse house = new PrintHouse();
        open.pages(pages).send(house);
        CHECK.due(what + " of " + pages + " pages", house.job(1, 8), want);
    }

    private static void howManyItHas() {
        for (int pages = 1; pages <= 6; pages++) {
            for (int up : new int[] {1, 2, 4}) {
                int sides = (pages + up - 1) / up;
                for (int copies = 1; copies <= 3; copies++) {
                    String what = "up " + up + ", " + copies + " copies";
                    has(what, Request.print().integer("up", up).integer("copies", copies), pages, copies * sides);
                    has(what + ", long", Request.print().integer("up", up).integer("copies", copies).word("sides", "long"),
                        pages, copies * ((sides + 1) / 2));
                    has(what + ", short", Request.print().integer("up", up).integer("copies", copies).word("sides", "short"),
                        pages, copies * ((sides + 1) / 2));
                }
            }
        }
    }

    private static void settings() {
        String[] sides = {"one", "long", "short"};
        for (int i = 0; i < 3; i++) {
            PrintHouse house = new PrintHouse();
            Request.print().word("sides", sides[i]).integer("up", 1 << i).pages(1).send(house);
            CHECK.due("job(1, 3)", house.job(1, 3), 1 << i);
            CHECK.due("job(1, 4)", house.job(1, 4), i);
            CHECK.due("job(1, 5)", house.job(1, 5), 0);
        }
        PrintHouse house = new PrintHouse();
        Request.print().bool("booklet", 1).pages(1).send(house);
        CHECK.due("job(1, 3) of a booklet", house.job(1, 3), 1);
        CHECK.due("job(1, 4) of a booklet", house.job(1, 4), 0);
        CHECK.due("job(1, 5) of a booklet", house.job(1, 5), 1);
    }
}
