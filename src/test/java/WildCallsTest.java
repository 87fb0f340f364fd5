import java.util.Random;

/** Calls with any arguments in any state: they throw just what and where the document says. */
public final class WildCallsTest {

    private static final Check CHECK = new Check("WildCallsTest");
    private static final int[] WILD = {0, 1, 2, 3, 4, 5, 6, 7, 8, 9, 11, 12, 13, 19, 20, 40, 127, 128, 239, 240, 255, 256,
        -1, -2, -8, Integer.MIN_VALUE, Integer.MAX_VALUE, 1 << 30, 357913942};

    private final Random random;
    private final PrintHouse house = new PrintHouse();

    private WildCallsTest(int run) {
        random = new Random(run);
    }

    public static void main(String[] args) {
        CHECK.sentence("IllegalStateException: the house is down (first of "
            + "all)", "and nothing else is thrown, but by job and pixel",
            WildCallsTest::wildRuns);
        CHECK.sentence("An object is used for at most 512 calls after it has been made", WildCallsTest::theLastCall);
        CHECK.end();
    }

    private static void wildRuns() {
        for (int run = 0; run < 1000; run++) {
            WildCallsTest wild = new WildCallsTest(run);
            for (int call = 0; call < 150; call++) {
                wild.call();
            }
        }
    }

    private int wild() {
        return WILD[random.nextInt(WILD.length)];
    }

    private void call() {
        int a = wild();
        int b = wild();
        int c = wild();
        switch (random.nextInt(10)) {
            case 0 -> refusedWhenDown("stop(" + a + ")", () -> house.stop(a) ? 1 : 0);
            case 1 -> mayFindNone("job(" + a + ", " + b + ")", () -> house.job(a, b));
            case 2 -> mayFindNone("pixel(" + a + ", " + b + ", " + c + ")", () -> house.pixel(a, b, c));
            case 3 -> refusedWhenDown("tick()", house::tick);
            case 4 -> alwaysAnswers("reply(" + a + ")", () -> house.reply(a));
            case 5 -> alwaysAnswers("sheet(" + a + ")", () -> house.sheet(a));
            case 6 -> alwaysAnswers("count(" + a + ")", () -> house.count(a));
            case 7 -> alwaysAnswers("restart()", () -> house.restart() ? 1 : 0);
            case 8 -> alwaysAnswers("put(" + a + ", " + b + ")", () -> house.put(a, b) ? 1 : 0);
            default -> {
                draft();
                refusedWhenDown("request()", house::request);
            }
        }
    }

    private void draft() {
        if (random.nextInt(3) == 0) {
            new Request().pages(1 + random.nextInt(6)).draft(house);
        } else if (house.count(6) == 0) {
            Request.print().integer("copies", 1 + random.nextInt(3)).pages(1 + random.nextInt(3)).draft(house);
        }
    }

    private static String kind(Check.Call made) {
        String outcome = Check.outcome(made);
        return outcome.startsWith("throws.") ? outcome : "an answer";
    }

    private void alwaysAnswers(String call, Check.Call made) {
        CHECK.due(call, kind(made), "an answer");
    }

    private void refusedWhenDown(String call, Check.Call made) {
        boolean isUp = house.count(5) == 1;
        CHECK.due(call, kind(made), isUp ? "an answer" : "throws.IllegalStateException");
    }

    private void mayFindNone(String call, Check.Call made) {
        boolean isUp = house.count(5) == 1;
        String kind = kind(made);
        if (isUp && kind.equals("throws.IndexOutOfBoundsException")) {
            kind = "an answer";
        }
        CHECK.due(call, kind, isUp ? "an answer" : "throws.IllegalStateException");
    }

    private static void theLastCall() {
        PrintHouse house = new PrintHouse();
        int calls = Request.of(Request.PRINT, 0).pages(6).draft(house) + 1;
        CHECK.due("PRINT", house.request(), 0);
        while (calls < 511) {
            CHECK.due("pixel", house.pixel(1, calls % 6, calls % 12), calls % 6 + 1);
            calls++;
        }
        CHECK.due("the 512th call", house.tick(), 1);
    }
}
