import java.io.IOException;
import java.io.UncheckedIOException;
import java.lang.reflect.Method;
import java.nio.file.Files;
import java.nio.file.Path;
import java.util.ArrayList;
import java.util.Arrays;
import java.util.List;
import java.util.TreeSet;
import java.util.regex.Matcher;
import java.util.regex.Pattern;
import java.util.stream.Collectors;
import java.util.stream.Stream;

/** README.md is true of the class and of the tests: its example, and the rows of its tables. */
public final class ReadmeTest {

    private static final Check CHECK = new Check("ReadmeTest");
    private static final List<String> README = lines(Path.of("README.md"));

    public static void main(String[] args) {
        example();
        calls();
        statuses();
        factsOfJobs();
        counts();
        classes();
        tests();
        CHECK.end();
    }

    private static List<String> lines(Path file) {
        try {
            return Files.readAllLines(file);
        } catch (IOException e) {
            throw new UncheckedIOException(e);
        }
    }

    /** The rows of the first table below a heading, without its head, as cells. */
    private static List<String[]> table(String heading) {
        List<String[]> rows = new ArrayList<>();
        int at = README.indexOf(heading) + 1;
        CHECK.due("README.md has " + heading, at > 0, true);
        while (at < README.size() && !README.get(at).startsWith("|")) {
            at++;
        }
        for (at += 2; at < README.size() && README.get(at).startsWith("|"); at++) {
            rows.add(README.get(at).substring(1).trim().split(" *\\| *"));
        }
        return rows;
    }

    /** A cell of all rows, as a set in order. */
    private static String column(String heading, int cell) {
        return table(heading).stream().map(row -> row[cell]).sorted().distinct().collect(Collectors.joining("\n"));
    }

    private static void example() {
        PrintHouse house = new PrintHouse();
        exampleHas("house.put(0x0101_0002_0000_0007L, 8);");
        CHECK.due("the first put", house.put(0x0101_0002_0000_0007L, 8), true);
        exampleHas("house.put(0x0103_5002_0107_0108L, 8);");
        CHECK.due("the second put", house.put(0x0103_5002_0107_0108L, 8), true);
        exampleTells("house.request()", house.request());
        exampleTells("house.reply(0)", house.reply(0));
        exampleTells("house.tick()", house.tick());
        exampleTells("house.sheet(0)", house.sheet(0));
        exampleTells("house.job(1, 0)", house.job(1, 0));
        exampleTells("house.pixel(1, 0, 11)", house.pixel(1, 0, 11));
        exampleTells("house.count(0)", house.count(0));
    }

    private static void exampleHas(String call) {
        CHECK.due("README.md has " + call, README.stream().anyMatch(line -> line.startsWith(call)), true);
    }

    private static void exampleTells(String call, int answer) {
        String told = README.stream().filter(line -> line.contains("= " + call + ";")).collect(Collectors.joining());
        CHECK.due("README.md at " + call, told.replaceAll(".*// (-?\\d+):.*", "$1"), Integer.toString(answer));
    }

    private static void calls() {
        TreeSet<String> face = new TreeSet<>();
        for (Method method : PrintHouse.class.getDeclaredMethods()) {
            if (method.toString().startsWith("public")) {
                face.add(types(method.getName(), method.getParameterTypes()) + thrown(method));
            }
        }
        String told = table("### The calls").stream()
            .map(row -> row[0].replaceAll("`", "").replaceAll(" \\w+(?=[,)])", "") + " throws " + row[2])
            .sorted().collect(Collectors.joining("\n"));
        CHECK.due("the calls in README.md", told, String.join("\n", face));
    }

    private static String types(String name, Class<?>[] parameters) {
        return Arrays.stream(parameters).map(Class::getSimpleName).collect(Collectors.joining(", ", name + "(", ")"));
    }

    private static String thrown(Method method) {
        String names = Arrays.stream(method.getExceptionTypes()).map(Class::getSimpleName)
            .collect(Collectors.joining(", "));
        return " throws " + (names.isEmpty() ? "nothing" : names);
    }

    /** The statuses stand in the order in which they are looked at, 1024 twice. */
    private static void statuses() {
        PrintHouse house = new PrintHouse();
        Request[] requests = {
            Request.raw(2, 1),
            Request.raw(1, 1),
            Request.of(3, 0).end(),
            Request.of(Request.CANCEL, 0).end(),
            Request.print().integer("copies", 4).pages(1),
            Request.print().pages(0),
            Request.print().pages(7),
            Request.print().pages(6),
            Request.ofJob(Request.ASK, 99),
            Request.ofJob(Request.RELEASE, 1),
            Request.list()};
        for (int i = 0; i < 5; i++) {
            Request.print().pages(6).send(house);
        }
        List<String[]> rows = table("### What request() answers");
        CHECK.due("rows of statuses", rows.size(), requests.length);
        for (int i = 0; i < Math.min(rows.size(), requests.length); i++) {
            CHECK.due("README.md, status in row " + i, rows.get(i)[0], Integer.toString(requests[i].send(house)));
        }
    }

    private static void factsOfJobs() {
        PrintHouse house = new PrintHouse();
        Request.print().pages(1).send(house);
        String known = Stream.iterate(-3, what -> what < 20, what -> what + 1)
            .filter(what -> !Check.outcome(() -> house.job(1, what)).startsWith("throws"))
            .map(String::valueOf).collect(Collectors.joining("\n"));
        CHECK.due("README.md, each what of job", column("### What job(number, what) answers", 0), known);
    }

    private static void counts() {
        PrintHouse house = new PrintHouse();
        String known = Stream.iterate(-3, what -> what < 20, what -> what + 1)
            .filter(what -> house.count(what) != PrintHouse.NONE)
            .map(String::valueOf).collect(Collectors.joining("\n"));
        CHECK.due("README.md, each what of count", column("### What count(what) answers", 0), known);
    }

    private static void classes() {
        String inside = Arrays.stream(PrintHouse.class.getDeclaredClasses())
            .map(each -> "`" + each.getSimpleName() + "`").sorted().collect(Collectors.joining("\n"));
        CHECK.due("README.md, classes inside", column("## How it is made", 0), inside);
    }

    /** Each test is named in a table, and each that is named there stands. */
    private static void tests() {
        TreeSet<String> named = new TreeSet<>();
        Pattern name = Pattern.compile("`(\\w+Test)`");
        for (String line : README) {
            Matcher each = name.matcher(line);
            while (each.find()) {
                named.add(each.group(1));
            }
        }
        try (Stream<Path> files = Files.list(Path.of("src/test/java"))) {
            String standing = files.map(file -> file.getFileName().toString())
                .filter(file -> file.endsWith("Test.java")).map(file -> file.replace(".java", ""))
                .sorted().collect(Collectors.joining("\n"));
            CHECK.due("tests named in README.md", String.join("\n", named), standing);
        } catch (IOException e) {
            throw new UncheckedIOException(e);
        }
    }
}
