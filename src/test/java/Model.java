import java.util.ArrayList;
import java.util.Arrays;
import java.util.Comparator;
import java.util.List;
import java.util.TreeMap;
import java.util.stream.Collectors;

/**
 * The document told a second time, without a thought for room or speed: the jobs are read from the
 * log anew whenever they are needed, and all sheets of a job are made at once.
 */
final class Model {

    private static final class Bad extends RuntimeException {
        private static final long serialVersionUID = 1;
    }

    private static final class Down extends RuntimeException {
        private static final long serialVersionUID = 1;
    }

    private record Attribute(int tag, List<Integer> value) {
        int integer() {
            return value.stream().reduce(0, (sum, each) -> sum * 256 + each);
        }

        String word() {
            return value.stream().map(Character::toString).collect(Collectors.joining());
        }
    }

    private record Spec(int copies, int priority, int up, int sides, boolean isBooklet, List<int[][]> pages) {
        int blocks() {
            return 1 + pages.size();
        }
    }

    /** An entry of the log: a new job with its spec, or another state. */
    private record Entry(int number, int state, Spec spec) {
        int blocks() {
            return spec == null ? 1 : spec.blocks();
        }
    }

    private record Known(int number, int state, Spec spec) {
        boolean hasEnded() {
            return state == 7 || state == 9;
        }
    }

    private List<Integer> draft = new ArrayList<>();
    private List<Integer> reply = List.of();
    private List<Integer> sheet = List.of();
    private List<Entry> log = new ArrayList<>();
    private final TreeMap<Integer, Integer> sent = new TreeMap<>();
    private int written;
    private int sheets;
    private int next = 1;
    private int stop = -1;
    private boolean isUp = true;

    boolean put(int... bytes) {
        if (draft.size() + bytes.length > 240) {
            return false;
        }
        Arrays.stream(bytes).forEach(draft::add);
        return true;
    }

    // The jobs and their log.

    private TreeMap<Integer, Known> known() {
        TreeMap<Integer, Known> jobs = new TreeMap<>();
        for (Entry entry : log) {
            Spec spec = entry.spec != null ? entry.spec : jobs.get(entry.number).spec;
            jobs.put(entry.number, new Known(entry.number, entry.state, spec));
        }
        return jobs;
    }

    private List<Known> listed() {
        Comparator<Known> order = Comparator.comparing((Known each) -> each.state == 5 ? 0 : 1);
        return known().values().stream().filter(each -> !each.hasEnded())
            .sorted(order.thenComparing(each -> -each.spec.priority).thenComparing(each -> each.number))
            .collect(Collectors.toList());
    }

    private void write() {
        if (stop == 0) {
            stop = -1;
            isUp = false;
            reply = List.of();
            sent.keySet().removeIf(number -> !known().containsKey(number) || known().get(number).state != 9);
            throw new Down();
        }
        stop = stop > 0 ? stop - 1 : stop;
        written++;
    }

    private static int blocks(List<Entry> entries) {
        return entries.stream().mapToInt(Entry::blocks).sum();
    }

    private void transact(Entry entry) {
        if (blocks(log) + entry.blocks() > 40) {
            List<Entry> anew = known().values().stream().filter(each -> !each.hasEnded())
                .map(each -> new Entry(each.number, each.state, each.spec)).collect(Collectors.toList());
            for (int i = 0; i <= blocks(anew); i++) {
                write();
            }
            log = anew;
        }
        for (int i = 0; i < entry.blocks(); i++) {
            write();
        }
        log.add(entry);
    }

    // Requests.

    int request() {
        List<Integer> bytes = draft;
        draft = new ArrayList<>();
        List<Integer> out = new ArrayList<>(List.of(1, 1, 0, 0));
        out.addAll(bytes.size() < 8 ? List.of(0, 0, 0, 0) : bytes.subList(4, 8));
        try {
            int status = perform(bytes, out);
            out.set(2, status / 256);
            out.set(3, status % 256);
            out.add(3);
            reply = out;
            return status;
        } catch (Down e) {
            return -1;
        }
    }

    private int perform(List<Integer> bytes, List<Integer> out) {
        if (bytes.size() >= 2 && !bytes.subList(0, 2).equals(List.of(1, 1))) {
            return 1283;
        }
        List<Integer> rest = new ArrayList<>(bytes);
        TreeMap<String, Attribute> first;
        TreeMap<String, Attribute> second = null;
        int operation;
        try {
            take(rest, 2);
            operation = take(rest, 2).get(0) * 256 + bytes.get(3);
            take(rest, 4);
            first = group(rest, 1);
            if (!rest.isEmpty() && rest.get(0) == 2) {
                second = group(rest, 2);
            }
            if (take(rest, 1).get(0) != 3) {
                return 1024;
            }
        } catch (Bad e) {
            return 1024;
        }
        if (!List.of(2, 8, 9, 10, 12, 13).contains(operation)) {
            return 1281;
        }
        if (operation == 2) {
            return print(second == null ? new TreeMap<>() : second, rest, out);
        }
        if (second != null || !rest.isEmpty()) {
            return 1024;
        }
        if (operation == 10) {
            listed().forEach(each -> tell(each.number, out, false));
            return 0;
        }
        Attribute job = first.get("job");
        return job == null || job.tag != 33 ? 1024 : onJob(operation, job.integer(), out);
    }

    private static List<Integer> take(List<Integer> rest, int many) {
        if (rest.size() < many) {
            throw new Bad();
        }
        List<Integer> head = new ArrayList<>(rest.subList(0, many));
        rest.subList(0, many).clear();
        return head;
    }

    private static TreeMap<String, Attribute> group(List<Integer> rest, int mark) {
        if (take(rest, 1).get(0) != mark) {
            throw new Bad();
        }
        TreeMap<String, Attribute> group = new TreeMap<>();
        while (!rest.isEmpty() && rest.get(0) > 3) {
            int tag = take(rest, 1).get(0);
            String name = new Attribute(68, sized(rest)).word();
            Attribute attribute = new Attribute(tag, sized(rest));
            List<Integer> value = attribute.value;
            boolean isFit = tag == 33 && value.size() == 4
                || tag == 34 && (value.equals(List.of(0)) || value.equals(List.of(1)))
                || tag == 68 && attribute.word().matches("[a-z]{1,8}");
            if (!isFit || !name.matches("[a-z]{1,8}") || group.put(name, attribute) != null) {
                throw new Bad();
            }
        }
        return group;
    }

    private static List<Integer> sized(List<Integer> rest) {
        List<Integer> size = take(rest, 2);
        return take(rest, size.get(0) * 256 + size.get(1));
    }

    private int print(TreeMap<String, Attribute> settings, List<Integer> data, List<Integer> out) {
        List<String> sides = List.of("one", "long", "short");
        for (String name : settings.keySet()) {
            Attribute each = settings.get(name);
            boolean isFit = switch (name) {
                case "copies" -> each.tag == 33 && each.integer() >= 1 && each.integer() <= 3;
                case "priority" -> each.tag == 33 && each.integer() >= 1 && each.integer() <= 100;
                case "up" -> each.tag == 33 && List.of(1, 2, 4).contains(each.integer());
                case "sides" -> each.tag == 68 && sides.contains(each.word());
                case "booklet", "hold" -> each.tag == 34;
                default -> false;
            };
            if (!isFit) {
                return 1035;
            }
        }
        boolean isBooklet = integer(settings, "booklet", 0) == 1;
        if (isBooklet && integer(settings, "up", 1) != 1) {
            return 1035;
        }
        List<int[][]> pages = new ArrayList<>();
        try {
            do {
                pages.add(page(data));
            } while (!data.isEmpty());
        } catch (Bad e) {
            return 1041;
        }
        if (pages.size() > 6) {
            return 1032;
        }
        int side = settings.containsKey("sides") ? sides.indexOf(settings.get("sides").word()) : 0;
        Spec spec = new Spec(integer(settings, "copies", 1), integer(settings, "priority", 50),
            integer(settings, "up", 1), side, isBooklet, pages);
        if (spec.blocks() + listed().stream().mapToInt(each -> each.spec.blocks()).sum() > 36) {
            return 1287;
        }
        transact(new Entry(next, integer(settings, "hold", 0) == 1 ? 4 : 3, spec));
        tell(next, out, false);
        next++;
        return 0;
    }

    private static int integer(TreeMap<String, Attribute> settings, String name, int untold) {
        return settings.containsKey(name) ? settings.get(name).integer() : untold;
    }

    private static int[][] page(List<Integer> data) {
        if (take(data, 1).get(0) != 80) {
            throw new Bad();
        }
        List<int[]> rows = new ArrayList<>();
        while (rows.size() < 3) {
            int times = take(data, 1).get(0) + 1;
            List<Integer> row = new ArrayList<>();
            while (row.size() < 4) {
                int c = take(data, 1).get(0);
                if (c < 128) {
                    row.addAll(java.util.Collections.nCopies(c + 1, take(data, 1).get(0)));
                } else if (c > 128) {
                    row.addAll(take(data, 257 - c));
                } else {
                    throw new Bad();
                }
            }
            if (row.size() != 4) {
                throw new Bad();
            }
            rows.addAll(java.util.Collections.nCopies(times, row.stream().mapToInt(each -> each).toArray()));
        }
        if (rows.size() != 3) {
            throw new Bad();
        }
        return rows.toArray(new int[0][]);
    }

    private int onJob(int operation, int number, List<Integer> out) {
        Known job = known().get(number);
        if (job == null) {
            return 1030;
        }
        if (operation == 8 && job.hasEnded() || operation == 12 && job.state != 3
            || operation == 13 && job.state != 4) {
            return 1028;
        }
        if (operation != 9) {
            transact(new Entry(number, operation == 8 ? 7 : operation == 12 ? 4 : 3, null));
        }
        tell(number, out, operation == 9);
        return 0;
    }

    private void tell(int number, List<Integer> out, boolean isAsked) {
        Known job = known().get(number);
        out.add(2);
        integer(out, "job", number);
        integer(out, "state", job.state);
        if (isAsked) {
            integer(out, "pages", job.spec.pages.size());
            integer(out, "copies", job.spec.copies);
            integer(out, "priority", job.spec.priority);
            integer(out, "sent", sent.getOrDefault(number, 0));
        }
    }

    private static void integer(List<Integer> out, String name, int value) {
        out.addAll(List.of(33, 0, name.length()));
        name.chars().forEach(out::add);
        out.addAll(List.of(0, 4, value >>> 24, value >>> 16 & 255, value >>> 8 & 255, value & 255));
    }

    // Sheets.

    int tick() {
        try {
            List<Known> turns = listed().stream().filter(each -> each.state != 4).collect(Collectors.toList());
            if (turns.isEmpty()) {
                return 0;
            }
            Known job = turns.get(0);
            if (job.state == 3) {
                transact(new Entry(job.number, 5, null));
                sent.put(job.number, 0);
            }
            List<List<Integer>> all = sheets(job.spec);
            int done = sent.getOrDefault(job.number, 0);
            sheet = all.get(done);
            sheets++;
            sent.put(job.number, done + 1);
            if (done + 1 == all.size()) {
                transact(new Entry(job.number, 9, null));
            }
            return job.number;
        } catch (Down e) {
            return -1;
        }
    }

    private static List<List<Integer>> sheets(Spec spec) {
        List<List<Integer>> once = spec.isBooklet ? booklet(spec) : plain(spec);
        List<List<Integer>> all = new ArrayList<>();
        for (int i = 0; i < spec.copies; i++) {
            all.addAll(once);
        }
        return all;
    }

    private static List<List<Integer>> plain(Spec spec) {
        List<int[][]> faces = new ArrayList<>();
        for (int from = 0; from < spec.pages.size(); from += spec.up) {
            faces.add(face(spec, from, from + 1, from + 2, from + 3));
        }
        List<List<Integer>> made = new ArrayList<>();
        for (int i = 0; i < faces.size(); i += spec.sides == 0 ? 1 : 2) {
            int[][] front = faces.get(i);
            int[][] back = i + 1 < faces.size() ? faces.get(i + 1) : new int[front.length][front[0].length];
            back = spec.sides == 2 ? quarter(quarter(back)) : back;
            made.add(spec.sides == 0 ? bytes(front) : bytes(front, back));
        }
        return made;
    }

    private static List<List<Integer>> booklet(Spec spec) {
        List<List<Integer>> made = new ArrayList<>();
        int n = (spec.pages.size() + 3) / 4 * 4;
        Spec pairs = new Spec(1, 1, 2, 0, false, spec.pages);
        for (int k = 0; k < n / 4; k++) {
            made.add(bytes(face(pairs, n - 2 * k - 1, 2 * k, 0, 0), face(pairs, 2 * k + 1, n - 2 * k - 2, 0, 0)));
        }
        return made;
    }

    private static int[][] face(Spec spec, int a, int b, int c, int d) {
        int[][] one = cell(spec, a);
        int[][] two = cell(spec, b);
        if (spec.up == 1) {
            return one;
        }
        if (spec.up == 2) {
            return beside(quarter(one), quarter(two));
        }
        List<int[]> rows = new ArrayList<>(Arrays.asList(beside(one, two)));
        rows.addAll(Arrays.asList(beside(cell(spec, c), cell(spec, d))));
        return rows.toArray(new int[0][]);
    }

    private static int[][] cell(Spec spec, int page) {
        return page < spec.pages.size() ? spec.pages.get(page) : new int[3][4];
    }

    private static int[][] beside(int[][] left, int[][] right) {
        int[][] both = new int[left.length][];
        for (int y = 0; y < left.length; y++) {
            both[y] = Arrays.copyOf(left[y], 2 * left[y].length);
            System.arraycopy(right[y], 0, both[y], left[y].length, right[y].length);
        }
        return both;
    }

    /** Clockwise: what was the first row is the last column. */
    private static int[][] quarter(int[][] page) {
        int[][] turned = new int[page[0].length][page.length];
        for (int y = 0; y < page.length; y++) {
            for (int x = 0; x < page[0].length; x++) {
                turned[x][page.length - 1 - y] = page[y][x];
            }
        }
        return turned;
    }

    private static List<Integer> bytes(int[][]... faces) {
        List<Integer> out = new ArrayList<>(List.of(83, faces[0][0].length, faces[0].length, faces.length));
        for (int[][] face : faces) {
            for (int y = 0; y < face.length;) {
                int end = y + 1;
                while (end < face.length && Arrays.equals(face[y], face[end])) {
                    end++;
                }
                out.add(end - y - 1);
                row(face[y], 0, out);
                y = end;
            }
        }
        return out;
    }

    private static void row(int[] row, int at, List<Integer> out) {
        if (at == row.length) {
            return;
        }
        int end = at + 1;
        if (end < row.length && row[end] == row[at]) {
            while (end < row.length && row[end] == row[at]) {
                end++;
            }
            out.addAll(List.of(end - at - 1, row[at]));
        } else {
            while (end < row.length && !(end + 1 < row.length && row[end] == row[end + 1])) {
                end++;
            }
            out.add(end - at == 1 ? 0 : 257 - (end - at));
            Arrays.stream(row, at, end).forEach(out::add);
        }
        row(row, end, out);
    }

    // What can be asked.

    boolean stop(int k) {
        if (k >= 0) {
            stop = k;
        }
        return k >= 0;
    }

    boolean restart() {
        boolean wasDown = !isUp;
        isUp = true;
        return wasDown;
    }

    boolean isUp() {
        return isUp;
    }

    int reply(int k) {
        return k >= 0 && k < reply.size() ? reply.get(k) : -1;
    }

    int sheet(int k) {
        return k >= 0 && k < sheet.size() ? sheet.get(k) : -1;
    }

    int replyLength() {
        return reply.size();
    }

    int sheetLength() {
        return sheet.size();
    }

    int job(int number, int what) {
        Known job = known().get(number);
        if (job == null || what < 0 || what > 8) {
            throw new IndexOutOfBoundsException();
        }
        Spec spec = job.spec;
        List<Integer> facts = List.of(job.state, spec.copies, spec.priority, spec.up, spec.sides,
            spec.isBooklet ? 1 : 0, spec.pages.size(), sent.getOrDefault(number, 0), sheets(spec).size());
        return facts.get(what);
    }

    int pixel(int number, int page, int at) {
        Known job = known().get(number);
        if (job == null || page < 0 || page >= job.spec.pages.size() || at < 0 || at >= 12) {
            throw new IndexOutOfBoundsException();
        }
        return job.spec.pages.get(page)[at / 4][at % 4];
    }

    int count(int what) {
        List<Integer> counts = List.of(written, blocks(log), sheets, known().size(), next, isUp ? 1 : 0, draft.size());
        return what >= 0 && what < counts.size() ? counts.get(what) : -1;
    }
}
