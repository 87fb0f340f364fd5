import java.util.Arrays;

/** Terms, requests: which bytes are a request, and which are BAD. */
public final class EdgesOfFormTest {

    private static final Check CHECK = new Check("EdgesOfFormTest");
    private static final int[] OPERATIONS = {2, 8, 9, 10, 12, 13};

    public static void main(String[] args) {
        CHECK.sentence("A REQUEST is: 1, 1; two bytes OPERATION; four bytes NUMBER (an int); a byte 1 and "
            + "ATTRIBUTES; perhaps a byte 2 and attributes; a byte 3; DATA",
            EdgesOfFormTest::requestsThatAreCut);
        CHECK.sentence("a byte 1 and ATTRIBUTES", EdgesOfFormTest::theFirstMark);
        CHECK.sentence("perhaps a byte 2 and attributes", EdgesOfFormTest::theSecondMark);
        CHECK.sentence("a byte 3", EdgesOfFormTest::theLastMark);
        CHECK.sentence("four bytes NUMBER (an int)", EdgesOfFormTest::numbers);
        CHECK.sentence("two bytes how long the name is (1 .. 8)", EdgesOfFormTest::lengthsOfNames);
        CHECK.sentence("the name (letters a .. z)", EdgesOfFormTest::lettersOfNames);
        CHECK.sentence("two bytes how long the value is, the value", EdgesOfFormTest::valuesThatAreCut);
        CHECK.sentence("by tag 33 an INTEGER (four bytes)", EdgesOfFormTest::integers);
        CHECK.sentence("34 a BOOLEAN (one byte 0 or 1)", EdgesOfFormTest::booleans);
        CHECK.sentence("68 a WORD (1 to 8 letters a .. z)", EdgesOfFormTest::words);
        CHECK.sentence("An attribute: a TAG", EdgesOfFormTest::tags);
        CHECK.sentence("No name twice in a group.", EdgesOfFormTest::namesTwice);
        CHECK.sentence("A request that is not so is BAD", EdgesOfFormTest::aBadRequestChangesNothing);
        CHECK.sentence("data are what is behind the byte 3", EdgesOfFormTest::whatIsBehind);
        CHECK.sentence("it would have more than 240", "the most attributes", EdgesOfFormTest::theMostAttributes);
        CHECK.end();
    }

    private static void status(String what, Request request, int want) {
        PrintHouse house = new PrintHouse();
        CHECK.due(what, request.send(house), want);
        CHECK.due(what + ": count(6)", house.count(6), 0);
        if (want != 0) {
            CHECK.due(what + ": count(0)", house.count(0), 0);
            CHECK.due(what + ": count(3)", house.count(3), 0);
            CHECK.due(what + ": reply(3)", house.reply(3), want & 255);
        }
    }

    /** An attribute, named by none of the settings, where a request may have one. */
    private static void attribute(String what, boolean isGood, int... bytes) {
        status(what + " in LIST", Request.of(Request.LIST, 0).data(bytes).end(), isGood ? 0 : 1024);
        status(what + " in PRINT", Request.of(Request.PRINT, 0).data(bytes).pages(1), isGood ? 0 : 1024);
        status(what + " in PRINT, second group", Request.print().data(bytes).pages(1), isGood ? 1035 : 1024);
        status(what + " behind another one", Request.of(Request.LIST, 0).bool("other", 1).data(bytes).end(),
            isGood ? 0 : 1024);
        status(what + " before another one", Request.of(Request.LIST, 0).data(bytes).bool("other", 1).end(),
            isGood ? 0 : 1024);
    }

    private static void attribute(String what, boolean isGood, Request attribute) {
        attribute(what, isGood, attribute.bytes());
    }

    private static void requestsThatAreCut() {
        int[] list = Request.of(Request.LIST, 7).integer("a", 1).bool("b", 1).word("cc", "dd").end().bytes();
        for (int length = 0; length < list.length; length++) {
            status("LIST cut at " + length, Request.raw(Arrays.copyOf(list, length)), 1024);
        }
        status("the whole LIST", Request.raw(list), 0);
        Request print = Request.of(Request.PRINT, 7).word("user", "ann").second().integer("copies", 2).word("sides", "long");
        int marks = print.bytes().length;
        int[] whole = print.end().data(80, 2, 3, 1).bytes();
        for (int length = 0; length < whole.length; length++) {
            status("PRINT cut at " + length, Request.raw(Arrays.copyOf(whole, length)), length <= marks ? 1024 : 1041);
        }
        status("the whole PRINT", Request.raw(whole), 0);
        for (int operation : OPERATIONS) {
            int[] bare = Request.of(operation, 7).bytes();
            for (int length = 0; length <= bare.length; length++) {
                status("operation " + operation + " cut at " + length, Request.raw(Arrays.copyOf(bare, length)), 1024);
            }
        }
    }

    private static void theFirstMark() {
        for (int mark : new int[] {0, 2, 3, 4, 33, 255}) {
            status("mark " + mark + " for the first group",
                Request.raw(1, 1, 0, 2, 0, 0, 0, 0, mark, 3, 80, 2, 3, 1), 1024);
        }
        status("mark 1", Request.raw(1, 1, 0, 2, 0, 0, 0, 0, 1, 3, 80, 2, 3, 1), 0);
        status("no mark", Request.raw(1, 1, 0, 2, 0, 0, 0, 0, 3, 80, 2, 3, 1), 1024);
        status("mark 1 twice", Request.raw(1, 1, 0, 2, 0, 0, 0, 0, 1, 1, 3, 80, 2, 3, 1), 1024);
    }

    private static void theSecondMark() {
        status("an empty second group", Request.print().pages(1), 0);
        status("no second group", Request.of(Request.PRINT, 0).pages(1), 0);
        status("two second groups", Request.print().second().pages(1), 1024);
        status("two second groups with attributes",
            Request.print().bool("hold", 0).second().bool("booklet", 0).pages(1), 1024);
        status("the first group behind the second", Request.print().number(1, 1).pages(1), 1024);
        status("the second group before the first", Request.raw(1, 1, 0, 2, 0, 0, 0, 0, 2, 1, 3, 80, 2, 3, 1), 1024);
        status("the second group without the first", Request.raw(1, 1, 0, 2, 0, 0, 0, 0, 2, 3, 80, 2, 3, 1), 1024);
    }

    private static void theLastMark() {
        for (int mark : new int[] {0, 1, 4, 5, 80, 131, 255}) {
            status("mark " + mark + " for the end", Request.of(Request.LIST, 0).data(mark), 1024);
            status("mark " + mark + " for the end, and 3", Request.of(Request.LIST, 0).data(mark, 3), 1024);
            status("mark " + mark + " behind an attribute", Request.of(Request.LIST, 0).bool("a", 1).data(mark), 1024);
            status("mark " + mark + " behind the second group", Request.print().data(mark, 80, 2, 3, 1), 1024);
        }
        status("mark 3", Request.of(Request.LIST, 0).data(3), 0);
    }

    private static void numbers() {
        for (int number : new int[] {0, 1, -1, 255, 256, 65536, 1 << 24, Integer.MAX_VALUE, Integer.MIN_VALUE}) {
            PrintHouse house = new PrintHouse();
            CHECK.due("LIST " + number, Request.of(Request.LIST, number).end().send(house), 0);
            int told = house.reply(4) << 24 | house.reply(5) << 16 | house.reply(6) << 8 | house.reply(7);
            CHECK.due("LIST " + number + ": the reply's number", told, number);
        }
    }

    private static void lengthsOfNames() {
        attribute("a name of 0", false, 34, 0, 0, 0, 1, 1);
        attribute("a name of 1", true, new Request().bool("x", 1));
        attribute("a name of 2", true, new Request().bool("xy", 1));
        attribute("a name of 7", true, new Request().bool("xxxxxxx", 1));
        attribute("a name of 8", true, new Request().bool("abcdefgh", 1));
        attribute("a name of 9", false, new Request().bool("abcdefghi", 1));
        attribute("a name of 16", false, new Request().bool("abcdefghijklmnop", 1));
        attribute("a name of 0 and nothing", false, 34, 0, 0);
        attribute("a name of 9 and nothing", false, 34, 0, 9);
        attribute("a length of 256 and nothing", false, 34, 1, 0);
        attribute("a length of 65535 and nothing", false, 34, 255, 255);
        attribute("a length of 256 + 1", false, 34, 1, 1, 'x', 0, 1, 1);
        attribute("a length of 65535", false, 34, 255, 255, 'x', 0, 1, 1);
        attribute("a length of 32768 + 1", false, 34, 128, 1, 'x', 0, 1, 1);
    }

    private static void lettersOfNames() {
        attribute("a name of a and z", true, new Request().bool("az", 1));
        for (int letter : new int[] {'a' - 1, 'z' + 1, 'A', 'Z', '0', '_', ' ', 0, 'a' + 128, 255}) {
            attribute("a name of " + letter, false, 34, 0, 1, letter, 0, 1, 1);
            attribute("a name of " + letter + " and nothing", false, 34, 0, 1, letter);
            attribute("a name of a and " + letter, false, 34, 0, 2, 'a', letter, 0, 1, 1);
            attribute("a name of " + letter + " and a", false, 34, 0, 2, letter, 'a', 0, 1, 1);
            attribute("a name of eight, the last " + letter, false,
                34, 0, 8, 'a', 'a', 'a', 'a', 'a', 'a', 'a', letter, 0, 1, 1);
        }
    }

    private static void valuesThatAreCut() {
        status("a value of 4 with 3", Request.of(Request.LIST, 0).data(33, 0, 1, 'x', 0, 4, 0, 0, 3), 1024);
        status("a value of 8 with 2", Request.of(Request.LIST, 0).data(68, 0, 1, 'x', 0, 8, 'a', 'b'), 1024);
        status("no value", Request.of(Request.LIST, 0).data(34, 0, 1, 'x', 0, 1), 1024);
        status("half a length", Request.of(Request.LIST, 0).data(34, 0, 1, 'x', 0), 1024);
        attribute("an integer without a value", false, 33, 0, 1, 'x', 0, 4);
        attribute("a boolean without a value", false, 34, 0, 1, 'x', 0, 1);
        attribute("a word without a value", false, 68, 0, 1, 'x', 0, 8);
        attribute("a name and nothing", false, 34, 0, 1, 'x');
        attribute("a tag and nothing", false, 34);
        attribute("an integer's length of 256 + 4", false, 33, 0, 1, 'x', 1, 4, 0, 0, 0, 1);
        attribute("a boolean's length of 256 + 1", false, 34, 0, 1, 'x', 1, 1, 1);
        attribute("a word's length of 256 + 1", false, 68, 0, 1, 'x', 1, 1, 'a');
        attribute("a word's length of 65535", false, 68, 0, 1, 'x', 255, 255, 'a');
    }

    private static void integers() {
        attribute("an integer of four", true, 33, 0, 1, 'x', 0, 4, 1, 2, 3, 4);
        attribute("the largest integer", true, new Request().integer("x", Integer.MAX_VALUE));
        attribute("the smallest integer", true, new Request().integer("x", Integer.MIN_VALUE));
        attribute("an integer of -1", true, new Request().integer("x", -1));
        for (int length : new int[] {0, 1, 2, 3, 5, 8}) {
            attribute("an integer of " + length, false, new Request().attribute(33, "x", new int[length]));
        }
    }

    private static void booleans() {
        attribute("a boolean 0", true, new Request().bool("x", 0));
        attribute("a boolean 1", true, new Request().bool("x", 1));
        for (int value : new int[] {2, 3, 127, 128, 129, 254, 255}) {
            attribute("a boolean " + value, false, new Request().bool("x", value));
        }
        attribute("a boolean of none", false, new Request().attribute(34, "x"));
        attribute("a boolean of two", false, new Request().attribute(34, "x", 0, 1));
        attribute("a boolean of four", false, new Request().attribute(34, "x", 0, 0, 0, 1));
    }

    private static void words() {
        attribute("a word of 0", false, new Request().word("x", ""));
        attribute("a word of 1", true, new Request().word("x", "a"));
        attribute("a word of 8", true, new Request().word("x", "zyxwvuta"));
        attribute("a word of 9", false, new Request().word("x", "abcdefghi"));
        attribute("a word of a and z", true, new Request().word("x", "az"));
        for (int letter : new int[] {'a' - 1, 'z' + 1, 'A', 'Z', '0', 0, 1, 'z' + 128, 255}) {
            attribute("a word of " + letter, false, 68, 0, 1, 'x', 0, 1, letter);
            attribute("a word of a and " + letter, false, 68, 0, 1, 'x', 0, 2, 'a', letter);
            attribute("a word of " + letter + " and a", false, 68, 0, 1, 'x', 0, 2, letter, 'a');
            attribute("a word of eight, the last " + letter, false,
                68, 0, 1, 'x', 0, 8, 'a', 'a', 'a', 'a', 'a', 'a', 'a', letter);
        }
    }

    private static void tags() {
        for (int tag : new int[] {0, 1, 4, 32, 35, 36, 67, 69, 33 + 128, 34 + 128, 68 + 128, 255}) {
            attribute("tag " + tag + " as an integer", false, tag, 0, 1, 'x', 0, 4, 0, 0, 0, 1);
            attribute("tag " + tag + " as a boolean", false, tag, 0, 1, 'x', 0, 1, 1);
            attribute("tag " + tag + " as a word", false, tag, 0, 1, 'x', 0, 1, 'a');
        }
        attribute("an integer as a boolean", false, 34, 0, 1, 'x', 0, 4, 0, 0, 0, 1);
        attribute("a boolean as an integer", false, 33, 0, 1, 'x', 0, 1, 1);
        attribute("four letters as an integer", true, 33, 0, 1, 'x', 0, 4, 'a', 'b', 'c', 'd');
    }

    private static void namesTwice() {
        attribute("a name twice", false, new Request().bool("x", 1).bool("x", 1));
        attribute("a name twice, another tag", false, new Request().bool("x", 1).word("x", "y"));
        attribute("a name twice, apart", false, new Request().integer("x", 1).bool("y", 1).word("z", "x").bool("x", 0));
        attribute("the last two names alike", false, new Request().bool("y", 1).bool("x", 1).bool("x", 1));
        attribute("a name of eight twice", false, new Request().bool("abcdefgh", 1).bool("abcdefgh", 0));
        attribute("names alike but for the last letter", true, new Request().bool("abcdefgh", 1).bool("abcdefgi", 1));
        attribute("names alike but for the first letter", true, new Request().bool("abcdefgh", 1).bool("bbcdefgh", 1));
        attribute("names that begin alike", true, new Request().bool("x", 1).bool("xx", 1).bool("xxx", 1));
        attribute("a value like a name", true, new Request().word("x", "y").word("y", "x"));
        status("a name in both groups",
            Request.of(Request.PRINT, 0).bool("hold", 1).second().bool("hold", 0).pages(1), 0);
        status("a setting twice", Request.print().integer("copies", 2).integer("copies", 2).pages(1), 1024);
        status("job twice", Request.of(Request.ASK, 0).integer("job", 1).integer("job", 1).end(), 1024);
        status("job twice, another tag", Request.of(Request.ASK, 0).integer("job", 1).word("job", "a").end(), 1024);
    }

    private static void aBadRequestChangesNothing() {
        Request[] bad = {
            Request.raw(), Request.raw(1), Request.of(Request.CANCEL, 1).integer("job", 3),
            Request.of(Request.CANCEL, 1).integer("job", 3).data(4),
            Request.of(Request.CANCEL, 1).integer("job", 3).bool("x", 2).end(),
            Request.of(Request.HOLD, 1).integer("job", 4).integer("job", 4).end(),
            Request.of(Request.RELEASE, 1).integer("job", 5).data(35, 0, 1, 'x', 0, 1, 1).end(),
            Request.print().bool("hold", 0).bool("hold", 1).pages(1), Request.print().bool("hold", 3).pages(1)};
        for (int i = 0; i < bad.length; i++) {
            Request request = bad[i];
            PrintHouse house = new PrintHouse();
            Scene.calm(house);
            CHECK.due("BAD request " + i, request.send(house), 1024);
            CHECK.leavesHouse("BAD request " + i, Scene::calm, request::send);
        }
    }

    private static void whatIsBehind() {
        status("data that look like a group", Request.print().end().data(2, 3, 80, 2, 3, 1), 1041);
        status("data that look like an end", Request.print().end().data(3, 80, 2, 3, 1), 1041);
        PrintHouse house = new PrintHouse();
        CHECK.due("pixels 1, 2, 3 and tags", Request.print().end().data(80, 0, 253, 1, 2, 3, 33, 1, 253, 34, 68, 80, 3)
            .send(house), 0);
        int[] pixels = {1, 2, 3, 33, 34, 68, 80, 3, 34, 68, 80, 3};
        for (int at = 0; at < 12; at++) {
            CHECK.due("pixel(1, 0, " + at + ")", house.pixel(1, 0, at), pixels[at]);
        }
    }

    /** All names of one letter, then some of two: 32 attributes and 240 bytes. */
    static Request longestList() {
        return most(Request.of(Request.LIST, 0), 32).end();
    }

    private static Request most(Request request, int many) {
        for (int i = 0; i < many; i++) {
            String letter = Character.toString('a' + i % 26);
            request.bool(i < 26 ? letter : "z" + letter, i % 2);
        }
        return request;
    }

    private static void theMostAttributes() {
        status("32 attributes", longestList(), 0);
        status("31 attributes, and the last twice", most(Request.of(Request.LIST, 0), 31).bool("ze", 0).end(), 1024);
        status("31 attributes, and the first twice", most(Request.of(Request.LIST, 0), 31).bool("a", 0).end(), 1024);
        status("30 attributes, and job behind them", most(Request.of(Request.ASK, 0), 30).integer("job", 1).end(), 1030);
        Request split = most(most(Request.of(Request.PRINT, 0), 15).second(), 16);
        status("31 attributes in two groups", split.pages(1), 1035);
        Request settings = most(Request.of(Request.PRINT, 0), 24).second().integer("copies", 3).integer("up", 2);
        status("24 attributes and two settings", settings.pages(1), 0);
    }
}
