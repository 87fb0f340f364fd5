import java.util.Arrays;
import java.util.function.Supplier;

/** Promise 3: request does what is drafted and answers the status, the first that is the case. */
public final class RequestTest {

    private static final Check CHECK = new Check("RequestTest");

    public static void main(String[] args) {
        otherVersionsComeFirst();
        badRequests();
        badAttributes();
        operationsThatAreNone();
        whatOnlyPrintMayHave();
        jobsMustBeNamed();
        settingsThatAreNot();
        settingsThatAre();
        dataThatAreNotPages();
        dataThatArePages();
        tooManyPages();
        tooManyBlocks();
        statesAllowOrNot();
        aStopLeavesNothing();
        CHECK.end();
    }

    private static void status(String what, Request request, int want) {
        CHECK.due(what, request.send(new PrintHouse()), want);
    }

    private static void otherVersionsComeFirst() {
        status("empty", Request.raw(), 1024);
        status("one byte 1", Request.raw(1), 1024);
        status("one byte 2", Request.raw(2), 1024);
        status("2 1", Request.raw(2, 1), 1283);
        status("1 2", Request.raw(1, 2), 1283);
        status("0 0 and more", Request.raw(0, 0, 0, 10, 0, 0, 0, 1, 1, 3), 1283);
        status("1 1", Request.raw(1, 1), 1024);
    }

    private static void badRequests() {
        int[] whole = Request.of(Request.LIST, 7).word("a", "b").end().bytes();
        for (int length = 2; length < whole.length; length++) {
            Request cut = Request.raw(Arrays.copyOf(whole, length));
            status("LIST cut at " + length, cut, 1024);
        }
        status("the whole LIST", Request.raw(whole), 0);
        status("no first group", Request.raw(1, 1, 0, 10, 0, 0, 0, 1, 3), 1024);
        status("the second group first", Request.raw(1, 1, 0, 2, 0, 0, 0, 1, 2, 3, 80, 2, 3, 0), 1024);
        status("the second group twice", Request.print().second().pages(1), 1024);
        status("the first group twice", Request.of(Request.PRINT, 0).number(1, 1).second().pages(1), 1024);
        status("BAD before no operation", Request.of(77, 0), 1024);
    }

    private static void badAttributes() {
        Supplier<Request> open = () -> Request.of(Request.LIST, 0);
        status("tag 35", open.get().attribute(35, "a", 1).end(), 1024);
        status("tag 0", open.get().attribute(0, "a", 1).end(), 1024);
        status("integer of 3", open.get().attribute(33, "a", 0, 0, 0).end(), 1024);
        status("integer of 5", open.get().attribute(33, "a", 0, 0, 0, 0, 0).end(), 1024);
        status("boolean 2", open.get().bool("a", 2).end(), 1024);
        status("boolean 255", open.get().bool("a", 255).end(), 1024);
        status("boolean of 0", open.get().attribute(34, "a").end(), 1024);
        status("boolean of 2", open.get().attribute(34, "a", 0, 1).end(), 1024);
        status("word of 0", open.get().attribute(68, "a").end(), 1024);
        status("word of 8", open.get().word("a", "abcdefgz").end(), 0);
        status("word of 9", open.get().word("a", "abcdefghi").end(), 1024);
        status("word with a capital", open.get().word("a", "aB").end(), 1024);
        status("word with `", open.get().word("a", "a`").end(), 1024);
        status("word with {", open.get().word("a", "{a").end(), 1024);
        status("name of 0", open.get().bool("", 1).end(), 1024);
        status("name of 8", open.get().bool("abcdefgz", 1).end(), 0);
        status("name of 9", open.get().bool("abcdefghi", 1).end(), 1024);
        status("name with a digit", open.get().bool("a1", 1).end(), 1024);
        status("name length 257", open.get().data(34, 1, 1, 'a', 0, 1, 1).end(), 1024);
        status("value length 257", open.get().data(34, 0, 1, 'a', 1, 1, 1).end(), 1024);
        status("name twice", open.get().bool("a", 1).word("b", "c").integer("a", 1).end(), 1024);
        status("name twice behind", Request.print().bool("hold", 1).bool("hold", 0).pages(1), 1024);
        status("name in both groups", Request.of(Request.PRINT, 0).bool("hold", 1).second().bool("hold", 0).pages(1), 0);
        status("names alike at the start", open.get().bool("a", 1).bool("aa", 1).bool("aaa", 1).end(), 0);
        Request many = open.get();
        for (char letter = 'a'; letter <= 'z'; letter++) {
            many.bool(String.valueOf(letter), 1);
        }
        status("26 attributes", many.end(), 0);
    }

    private static void operationsThatAreNone() {
        for (int operation : new int[] {0, 1, 3, 7, 11, 14, 258, 512, 65535}) {
            status("operation " + operation, Request.of(operation, 0).end(), 1281);
            status("operation " + operation + " with data", Request.of(operation, 0).second().end().data(1), 1281);
        }
    }

    private static void whatOnlyPrintMayHave() {
        for (int operation : new int[] {8, 9, 10, 12, 13}) {
            String of = "operation " + operation;
            status(of + ", an empty second group", Request.of(operation, 0).integer("job", 1).second().end(), 1024);
            status(of + ", data", Request.of(operation, 0).integer("job", 1).end().data(3), 1024);
        }
        status("LIST with attributes", Request.of(Request.LIST, 0).integer("job", 1).word("x", "y").end(), 0);
    }

    private static void jobsMustBeNamed() {
        for (int operation : new int[] {8, 9, 12, 13}) {
            String of = "operation " + operation;
            status(of + ", no job", Request.of(operation, 0).end(), 1024);
            status(of + ", a word job", Request.of(operation, 0).word("job", "one").end(), 1024);
            status(of + ", a boolean job", Request.of(operation, 0).bool("job", 1).end(), 1024);
            status(of + ", another integer", Request.of(operation, 0).integer("jobs", 1).end(), 1024);
            status(of + ", not known", Request.of(operation, 0).word("user", "ann").integer("job", 1).end(), 1030);
            status(of + ", below 0", Request.ofJob(operation, -1), 1030);
            status(of + ", job 0", Request.ofJob(operation, 0), 1030);
        }
    }

    private static void settingsThatAreNot() {
        for (int copies : new int[] {0, 4, -1, Integer.MIN_VALUE, 257}) {
            status("copies " + copies, Request.print().integer("copies", copies).pages(1), 1035);
        }
        for (int priority : new int[] {0, 101, -1, 306}) {
            status("priority " + priority, Request.print().integer("priority", priority).pages(1), 1035);
        }
        for (int up : new int[] {0, 3, 5, 8, -2}) {
            status("up " + up, Request.print().integer("up", up).pages(1), 1035);
        }
        status("sides both", Request.print().word("sides", "both").pages(1), 1035);
        status("sides on", Request.print().word("sides", "on").pages(1), 1035);
        status("integer sides", Request.print().integer("sides", 1).pages(1), 1035);
        status("boolean copies", Request.print().bool("copies", 1).pages(1), 1035);
        status("word copies", Request.print().word("copies", "one").pages(1), 1035);
        status("integer hold", Request.print().integer("hold", 1).pages(1), 1035);
        status("integer booklet", Request.print().integer("booklet", 1).pages(1), 1035);
        status("word booklet", Request.print().word("booklet", "one").pages(1), 1035);
        status("another name", Request.print().integer("job", 1).pages(1), 1035);
        status("another boolean", Request.print().bool("color", 1).pages(1), 1035);
        status("another word", Request.print().word("side", "one").pages(1), 1035);
        status("booklet and up 2", Request.print().bool("booklet", 1).integer("up", 2).pages(1), 1035);
        status("up 4 and booklet", Request.print().integer("up", 4).bool("booklet", 1).pages(1), 1035);
        status("a wrong setting before wrong data", Request.print().integer("up", 3).end().data(1), 1035);
    }

    private static void settingsThatAre() {
        for (int copies = 1; copies <= 3; copies++) {
            status("copies " + copies, Request.print().integer("copies", copies).pages(1), 0);
        }
        for (int priority : new int[] {1, 50, 100}) {
            status("priority " + priority, Request.print().integer("priority", priority).pages(1), 0);
        }
        for (int up : new int[] {1, 2, 4}) {
            status("up " + up, Request.print().integer("up", up).pages(1), 0);
            status("no booklet, up " + up, Request.print().bool("booklet", 0).integer("up", up).pages(1), 0);
        }
        for (String sides : new String[] {"one", "long", "short"}) {
            status("sides " + sides, Request.print().word("sides", sides).pages(1), 0);
        }
        status("booklet and up 1", Request.print().integer("up", 1).bool("booklet", 1).pages(1), 0);
        status("no second group", Request.of(Request.PRINT, 0).pages(1), 0);
        status("wrong settings in the first group", Request.of(Request.PRINT, 0).integer("copies", 9).pages(1), 0);
    }

    private static void page(String what, int want, int... data) {
        status(what, Request.print().end().data(data), want);
    }

    private static void dataThatAreNotPages() {
        page("no data", 1041);
        page("another mark", 1041, 81, 2, 3, 1);
        page("the mark alone", 1041, 80);
        page("rows that end early", 1041, 80, 1, 3, 1);
        page("four rows at once", 1041, 80, 3, 3, 1);
        page("256 rows at once", 1041, 80, 255, 3, 1);
        page("four rows in two", 1041, 80, 1, 3, 1, 1, 3, 1);
        page("a run too long", 1041, 80, 2, 4, 1);
        page("runs too long", 1041, 80, 2, 1, 1, 2, 1);
        page("runs too short", 1041, 80, 2, 2, 1);
        page("128 as a run", 1041, 80, 2, 128, 3, 1);
        page("five pixels", 1041, 80, 2, 252, 1, 2, 3, 4, 5);
        page("pixels that are not there", 1041, 80, 2, 253, 1, 2, 3);
        page("a pixel that is not there", 1041, 80, 2, 3);
        page("a byte behind", 1041, 80, 2, 3, 1, 0);
        page("a page behind that is none", 1041, 80, 2, 3, 1, 80, 2, 3);
        page("a seventh that is none", 1041, 80, 2, 3, 1, 80, 2, 3, 1, 80, 2, 3, 1, 80, 2, 3, 1, 80, 2, 3, 1,
            80, 2, 3, 1, 80, 2);
    }

    private static void dataThatArePages() {
        page("one run", 0, 80, 2, 3, 1);
        page("runs of one", 0, 80, 2, 0, 1, 0, 1, 0, 1, 0, 1);
        page("pixels in pairs", 0, 80, 2, 255, 1, 2, 255, 1, 2);
        page("one, then three", 0, 80, 2, 0, 5, 254, 1, 2, 3);
        page("equal rows apart", 0, 80, 0, 3, 1, 0, 3, 1, 0, 3, 1);
        page("two, then one", 0, 80, 1, 3, 255, 0, 3, 0);
    }

    private static void tooManyPages() {
        status("six", Request.print().pages(6), 0);
        status("seven", Request.print().pages(7), 1032);
        status("57", Request.print().pages(57), 1032);
        PrintHouse full = new PrintHouse();
        for (int i = 0; i < 5; i++) {
            Request.print().pages(6).send(full);
        }
        CHECK.due("seven pages for a full house", Request.print().pages(7).send(full), 1032);
    }

    private static void tooManyBlocks() {
        PrintHouse house = new PrintHouse();
        for (int i = 0; i < 5; i++) {
            CHECK.due("7 blocks", Request.print().pages(6).send(house), 0);
        }
        CHECK.due("2 above 35", Request.print().pages(1).send(house), 1287);
        CHECK.due("CANCEL", Request.ofJob(Request.CANCEL, 3).send(house), 0);
        CHECK.due("6 above 28", Request.print().pages(5).send(house), 0);
        CHECK.due("2 above 34", Request.print().pages(1).send(house), 0);
        CHECK.due("2 above 36", Request.print().pages(1).send(house), 1287);
        CHECK.due("count(4)", house.count(4), 8);
    }

    private static void statesAllowOrNot() {
        // What CANCEL, ASK, HOLD and RELEASE answer for a job of the state.
        int[][] want = {
            {3, 0, 0, 0, 1028}, {4, 0, 0, 1028, 0}, {5, 0, 0, 1028, 1028}, {7, 1028, 0, 1028, 1028},
            {9, 1028, 0, 1028, 1028}};
        int[] operations = {Request.CANCEL, Request.ASK, Request.HOLD, Request.RELEASE};
        int[] after = {7, 0, 4, 3};
        for (int[] row : want) {
            for (int i = 0; i < operations.length; i++) {
                PrintHouse house = inState(row[0]);
                int blocks = house.count(0);
                String what = "operation " + operations[i] + " in state " + row[0];
                CHECK.due(what, Request.ofJob(operations[i], 1).send(house), row[i + 1]);
                boolean changes = row[i + 1] == 0 && after[i] != 0;
                CHECK.due(what + ": job(1, 0)", house.job(1, 0), changes ? after[i] : row[0]);
                CHECK.due(what + ": blocks", house.count(0) - blocks, changes ? 1 : 0);
            }
        }
    }

    private static PrintHouse inState(int state) {
        PrintHouse house = new PrintHouse();
        Request.print().bool("hold", state == 4 ? 1 : 0).pages(2).send(house);
        if (state == 7) {
            Request.ofJob(Request.CANCEL, 1).send(house);
        }
        for (int i = 0; i < (state == 5 ? 1 : state == 9 ? 2 : 0); i++) {
            house.tick();
        }
        if (house.job(1, 0) != state) {
            throw new AssertionError("no job in state " + state);
        }
        return house;
    }

    private static void aStopLeavesNothing() {
        for (int blocks = 0; blocks < 3; blocks++) {
            PrintHouse house = new PrintHouse();
            house.stop(blocks);
            CHECK.due("PRINT, stop " + blocks, Request.print().pages(2).send(house), PrintHouse.NONE);
            CHECK.due("count(6)", house.count(6), 0);
            CHECK.due("count(4)", house.count(4), 1);
            CHECK.isDown("request()", house::request);
        }
        PrintHouse house = new PrintHouse();
        house.stop(3);
        CHECK.due("PRINT, stop 3", Request.print().pages(2).send(house), 0);
        CHECK.due("ASK", Request.ofJob(Request.ASK, 1).send(house), 0);
        CHECK.due("LIST", Request.list().send(house), 0);
        CHECK.due("HOLD", Request.ofJob(Request.HOLD, 1).send(house), PrintHouse.NONE);
        house.restart();
        CHECK.due("job(1, 0)", house.job(1, 0), 3);
    }
}
