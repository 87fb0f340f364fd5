/** Terms, 1035 and what a JOB has: the settings of PRINT, just inside and just outside. */
public final class EdgesOfSettingsTest {

    private static final Check CHECK = new Check("EdgesOfSettingsTest");
    private static final String[] NAMES = {"copies", "priority", "up", "sides", "booklet", "hold"};

    public static void main(String[] args) {
        CHECK.sentence("copies (integer 1 .. 3)", EdgesOfSettingsTest::copies);
        CHECK.sentence("priority (integer 1 .. 100)", EdgesOfSettingsTest::priority);
        CHECK.sentence("up (integer 1, 2, 4)", EdgesOfSettingsTest::up);
        CHECK.sentence("sides (word one, long, short)", EdgesOfSettingsTest::sides);
        CHECK.sentence("booklet, hold (booleans)", EdgesOfSettingsTest::booleans);
        CHECK.sentence("or booklet is 1 and up there, too, and not 1", EdgesOfSettingsTest::bookletAndUp);
        CHECK.sentence("an attribute of the second group is none of these", EdgesOfSettingsTest::otherNames);
        CHECK.sentence("or has another tag", EdgesOfSettingsTest::otherTags);
        CHECK.sentence("copies (1 if not told), priority (50), up (1), sides (one), booklet (0)",
            EdgesOfSettingsTest::whatIsNotTold);
        CHECK.sentence("copies (1 if not told)", "nothing is left of another PRINT",
            EdgesOfSettingsTest::nothingIsLeftOfOthers);
        CHECK.sentence("PENDING, or HELD if hold is 1", EdgesOfSettingsTest::hold);
        CHECK.end();
    }

    private static void refused(String what, Request open) {
        PrintHouse house = new PrintHouse();
        Request request = open.pages(2);
        CHECK.due(what, request.send(house), 1035);
        CHECK.due(what + ": count(0)", house.count(0), 0);
        CHECK.due(what + ": count(3)", house.count(3), 0);
        CHECK.due(what + ": count(4)", house.count(4), 1);
        CHECK.due(what + ": reply", Request.reply(house), "1 1 4 11 0 0 0 0 3");
        CHECK.leavesHouse(what, Scene::calm, request::send);
    }

    private static void taken(String what, Request open, int fact, int want) {
        PrintHouse house = new PrintHouse();
        CHECK.due(what, open.pages(2).send(house), 0);
        CHECK.due(what + ": job(1, " + fact + ")", house.job(1, fact), want);
    }

    private static void integer(String name, int fact, int[] inside, int[] outside) {
        for (int value : inside) {
            taken(name + " " + value, Request.print().integer(name, value), fact, value);
        }
        for (int value : outside) {
            refused(name + " " + value, Request.print().integer(name, value));
        }
    }

    private static void copies() {
        integer("copies", 1, new int[] {1, 2, 3},
            new int[] {0, 4, -1, 256 + 1, 1 << 16 | 1, 1 << 24 | 1, Integer.MIN_VALUE, Integer.MIN_VALUE + 1, Integer.MAX_VALUE});
    }

    private static void priority() {
        integer("priority", 2, new int[] {1, 2, 49, 51, 99, 100},
            new int[] {0, 101, -1, -50, 256 + 50, 1 << 24 | 50, Integer.MIN_VALUE + 50, Integer.MIN_VALUE, Integer.MAX_VALUE});
    }

    private static void up() {
        integer("up", 3, new int[] {1, 2, 4},
            new int[] {0, 3, 5, 6, 8, 16, -1, -2, -4, 256 + 2, 1 << 24 | 4, Integer.MIN_VALUE + 1, Integer.MIN_VALUE,
                Integer.MAX_VALUE});
    }

    private static void sides() {
        String[] words = {"one", "long", "short"};
        for (int i = 0; i < words.length; i++) {
            taken("sides " + words[i], Request.print().word("sides", words[i]), 4, i);
        }
        for (String word : new String[] {"on", "ones", "onf", "pne", "lon", "longs", "shor", "shorts", "two", "o", "a",
            "oneone", "zzzzzzzz"}) {
            refused("sides " + word, Request.print().word("sides", word));
        }
    }

    private static void booleans() {
        for (int value = 0; value <= 1; value++) {
            taken("booklet " + value, Request.print().bool("booklet", value), 5, value);
            taken("hold " + value, Request.print().bool("hold", value), 0, 3 + value);
        }
    }

    private static void bookletAndUp() {
        taken("booklet 1, no up", Request.print().bool("booklet", 1), 3, 1);
        taken("booklet 1, up 1", Request.print().bool("booklet", 1).integer("up", 1), 5, 1);
        taken("up 1, booklet 1", Request.print().integer("up", 1).bool("booklet", 1), 5, 1);
        for (int up : new int[] {2, 4}) {
            taken("booklet 0, up " + up, Request.print().bool("booklet", 0).integer("up", up), 3, up);
            taken("up " + up + ", booklet 0", Request.print().integer("up", up).bool("booklet", 0), 3, up);
            refused("booklet 1, up " + up, Request.print().bool("booklet", 1).integer("up", up));
            refused("up " + up + ", booklet 1", Request.print().integer("up", up).bool("booklet", 1));
            refused("booklet 1, others, up " + up,
                Request.print().bool("booklet", 1).integer("copies", 2).bool("hold", 1).integer("up", up));
            taken("booklet 1, up " + up + " in the first group",
                Request.of(Request.PRINT, 0).integer("up", up).second().bool("booklet", 1), 5, 1);
        }
    }

    private static void otherNames() {
        for (String name : new String[] {"job", "pages", "state", "sent", "copy", "copiess", "copie", "prioritx", "u", "upp",
            "side", "sidess", "bookleu", "holds", "hol", "a"}) {
            refused("integer " + name, Request.print().integer(name, 1));
            refused("boolean " + name, Request.print().bool(name, 1));
            refused("word " + name, Request.print().word(name, "one"));
            refused("good ones, then " + name, Request.print().integer("copies", 1).bool("hold", 0).integer(name, 1));
            refused(name + ", then good ones", Request.print().integer(name, 1).integer("copies", 1).bool("hold", 0));
        }
    }

    private static void otherTags() {
        for (String name : NAMES) {
            boolean isInteger = name.equals("copies") || name.equals("priority") || name.equals("up");
            if (!isInteger) {
                refused("integer " + name, Request.print().integer(name, 1));
            }
            if (!name.equals("sides")) {
                refused("word " + name, Request.print().word(name, "one"));
            }
            if (isInteger || name.equals("sides")) {
                refused("boolean " + name, Request.print().bool(name, 1));
            }
        }
    }

    private static void facts(PrintHouse house, int number, int... want) {
        for (int what = 0; what < want.length; what++) {
            CHECK.due("job(" + number + ", " + what + ")", house.job(number, what), want[what]);
        }
    }

    private static void whatIsNotTold() {
        PrintHouse house = new PrintHouse();
        CHECK.due("PRINT, no second group", Request.of(Request.PRINT, 0).pages(3).send(house), 0);
        CHECK.due("PRINT, an empty one", Request.print().pages(3).send(house), 0);
        facts(house, 1, 3, 1, 50, 1, 0, 0, 3, 0, 3);
        facts(house, 2, 3, 1, 50, 1, 0, 0, 3, 0, 3);
    }

    private static void nothingIsLeftOfOthers() {
        PrintHouse house = new PrintHouse();
        CHECK.due("PRINT", Request.print().integer("copies", 3).integer("priority", 9).word("sides", "short")
            .bool("hold", 1).bool("booklet", 1).pages(2).send(house), 0);
        CHECK.due("PRINT, refused", Request.print().integer("copies", 2).integer("up", 4).bool("hold", 1)
            .integer("priority", 0).pages(4).send(house), 1035);
        CHECK.due("PRINT, no pages", Request.print().integer("up", 4).end().data(80, 2, 3, 9, 80).send(house), 1041);
        CHECK.due("PRINT of what is not told", Request.print().pages(1).send(house), 0);
        facts(house, 1, 4, 3, 9, 1, 2, 1, 2, 0, 3);
        facts(house, 2, 3, 1, 50, 1, 0, 0, 1, 0, 1);
        for (int at = 0; at < 12; at++) {
            CHECK.due("pixel(2, 0, " + at + ")", house.pixel(2, 0, at), 1);
        }
    }

    private static void hold() {
        PrintHouse house = new PrintHouse();
        Request.print().bool("hold", 1).pages(1).send(house);
        CHECK.due("HELD", house.job(1, 0), 4);
        CHECK.due("HELD: the reply's state", house.reply(34), 4);
        Request.print().bool("hold", 0).pages(1).send(house);
        CHECK.due("PENDING", house.job(2, 0), 3);
        CHECK.due("PENDING: the reply's state", house.reply(34), 3);
        Request.of(Request.PRINT, 0).bool("hold", 1).pages(1).send(house);
        CHECK.due("hold in the first group", house.job(3, 0), 3);
    }
}
