import java.util.ArrayList;
import java.util.Arrays;
import java.util.List;
import java.util.Random;

/** Runs of calls by chance, always the same ones, with the answers of Model as those that are due. */
public final class ModelTest {

    private static final int RUNS = 4000;
    private static final int MOST_CALLS = 512;

    private final Check check;
    private final int run;
    private final Random random;
    private final PrintHouse house = new PrintHouse();
    private final Model model = new Model();
    private int calls;

    private ModelTest(Check check, int run) {
        this.check = check;
        this.run = run;
        random = new Random(run);
    }

    public static void main(String[] args) {
        Check check = new Check("ModelTest");
        for (int run = 0; run < RUNS && check.wrong() == 0; run++) {
            new ModelTest(check, run).go();
        }
        check.end();
    }

    private void go() {
        int changing = 40 + random.nextInt(360);
        while (calls < changing && check.wrong() == 0) {
            step();
        }
        askAll();
    }

    private boolean isTime(int oneIn) {
        return random.nextInt(oneIn) == 0;
    }

    private void step() {
        if (!model.isUp() && !isTime(6)) {
            due("restart()", house.restart() ? 1 : 0, model.restart() ? 1 : 0);
        } else if (isTime(25)) {
            int k = random.nextInt(isTime(3) ? 45 : 6) - 1;
            same("stop(" + k + ")", () -> house.stop(k) ? 1 : 0, () -> up() && model.stop(k) ? 1 : 0);
        } else if (isTime(3)) {
            same("tick()", house::tick, () -> up() ? model.tick() : 0);
        } else if (isTime(20)) {
            askOne();
        } else {
            send(isTime(2) ? print() : onJob());
        }
    }

    /** What is asked of a house that is down throws. */
    private boolean up() {
        if (!model.isUp()) {
            throw new IllegalStateException();
        }
        return true;
    }

    private void same(String call, Check.Call made, Check.Call due) {
        calls++;
        check.due("run " + run + ", call " + calls + ": " + call, Check.outcome(made), Check.outcome(due));
    }

    private void due(String call, long got, long want) {
        calls++;
        check.due("run " + run + ", call " + calls + ": " + call, got, want);
    }

    private void send(Request request) {
        int[] bytes = isTime(12) ? spoilt(request.bytes()) : request.bytes();
        for (int from = 0; from < bytes.length; from += 8) {
            int[] part = Arrays.copyOfRange(bytes, from, Math.min(from + 8, bytes.length));
            long v = 0;
            for (int each : part) {
                v = v << 8 | each;
            }
            due("put(" + v + ", " + part.length + ")", house.put(v, part.length) ? 1 : 0, model.put(part) ? 1 : 0);
        }
        same("request() of " + Arrays.toString(bytes), house::request, () -> up() ? model.request() : 0);
        int k = random.nextInt(40);
        due("reply(" + k + ")", house.reply(k), model.reply(k));
    }

    private int[] spoilt(int[] bytes) {
        List<Integer> list = new ArrayList<>();
        Arrays.stream(bytes).forEach(list::add);
        int at = random.nextInt(bytes.length);
        int[] values = {0, 1, 2, 3, 4, 33, 34, 68, 80, 128, 255, 'a'};
        int value = values[random.nextInt(values.length)];
        switch (random.nextInt(4)) {
            case 0 -> list.set(at, value);
            case 1 -> list.add(at, value);
            case 2 -> list.remove(at);
            default -> list.subList(at, list.size()).clear();
        }
        return list.stream().mapToInt(Integer::intValue).toArray();
    }

    private Request onJob() {
        int[] operations = {8, 9, 10, 12, 13, 9, 12, 13};
        int operation = operations[random.nextInt(operations.length)];
        Request request = Request.of(operation, random.nextInt());
        if (isTime(8)) {
            request.word("user", "ann");
        }
        if (operation != 10 || isTime(4)) {
            request.integer("job", random.nextInt(model.count(4) + 1));
        }
        return request.end();
    }

    private Request print() {
        Request request = Request.of(Request.PRINT, random.nextInt());
        if (!isTime(5)) {
            request.second();
            settings(request);
        }
        request.end();
        int pages = isTime(15) ? 7 : 1 + random.nextInt(6);
        for (int i = 0; i < pages && request.bytes().length < 220; i++) {
            request.data(page());
        }
        return request;
    }

    private void settings(Request request) {
        if (isTime(3)) {
            request.integer("copies", isTime(9) ? 4 : 1 + random.nextInt(3));
        }
        if (isTime(2)) {
            request.integer("priority", isTime(9) ? 101 : 1 + random.nextInt(100));
        }
        if (isTime(2)) {
            request.integer("up", isTime(9) ? 3 : 1 << random.nextInt(3));
        } else if (isTime(2)) {
            request.bool("booklet", isTime(5) ? 0 : 1);
        }
        if (isTime(2)) {
            request.word("sides", List.of("one", "long", "short").get(random.nextInt(3)));
        }
        if (isTime(5)) {
            request.bool("hold", isTime(5) ? 0 : 1);
        }
    }

    private int[] page() {
        Request page = Request.raw(80);
        int top = 0;
        while (top < 3) {
            int rows = 1 + random.nextInt(3 - top);
            page.data(rows - 1);
            int left = 0;
            while (left < 4) {
                int pixels = 1 + random.nextInt(4 - left);
                if (pixels == 1 || isTime(2)) {
                    page.data(pixels - 1, random.nextInt(3));
                } else {
                    page.data(257 - pixels);
                    for (int i = 0; i < pixels; i++) {
                        page.data(random.nextInt(4));
                    }
                }
                left += pixels;
            }
            top += rows;
        }
        return page.bytes();
    }

    private void askOne() {
        int number = random.nextInt(model.count(4) + 1);
        int what = random.nextInt(11) - 1;
        int at = random.nextInt(14) - 1;
        int page = random.nextInt(8) - 1;
        same("job(" + number + ", " + what + ")", () -> house.job(number, what), () -> up() ? model.job(number, what) : 0);
        same("pixel(" + number + ", " + page + ", " + at + ")", () -> house.pixel(number, page, at),
            () -> up() ? model.pixel(number, page, at) : 0);
        due("sheet(" + at + ")", house.sheet(at), model.sheet(at));
        due("count(" + what + ")", house.count(what), model.count(what));
    }

    private void askAll() {
        for (int what = -1; what <= 7; what++) {
            due("count(" + what + ")", house.count(what), model.count(what));
        }
        for (int k = 0; k <= model.sheetLength() && calls < MOST_CALLS; k++) {
            due("sheet(" + k + ")", house.sheet(k), model.sheet(k));
        }
        for (int number = model.count(4); number >= 0 && calls < MOST_CALLS - 9; number--) {
            int asked = number;
            for (int what = 0; what <= 8; what++) {
                int fact = what;
                same("job(" + asked + ", " + fact + ")", () -> house.job(asked, fact),
                    () -> up() ? model.job(asked, fact) : 0);
            }
        }
        for (int k = 0; k <= model.replyLength() && calls < MOST_CALLS; k++) {
            due("reply(" + k + ")", house.reply(k), model.reply(k));
        }
    }
}
