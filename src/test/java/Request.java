import java.util.ArrayList;
import java.util.Arrays;
import java.util.List;
import java.util.function.IntUnaryOperator;

/** Writes requests, and reads replies and sheets as texts of numbers. */
final class Request {

    static final int PRINT = 2;
    static final int CANCEL = 8;
    static final int ASK = 9;
    static final int LIST = 10;
    static final int HOLD = 12;
    static final int RELEASE = 13;

    /** A page with four pixels in its first row and 9 in the others. */
    static final int[] ROW_PAGE = {80, 0, 253, 1, 2, 3, 4, 1, 3, 9};
    /** A page with three rows 7 7 8 8. */
    static final int[] HALF_PAGE = {80, 2, 1, 7, 1, 8};
    /** The pixels 1 .. 12. */
    static final int[] COUNT_PAGE = {80, 0, 253, 1, 2, 3, 4, 0, 253, 5, 6, 7, 8, 0, 253, 9, 10, 11, 12};

    private final List<Integer> bytes = new ArrayList<>();

    static Request raw(int... bytes) {
        return new Request().data(bytes);
    }

    static Request of(int operation, int number) {
        return new Request().number(1, 1).number(1, 1).number(operation, 2).number(number, 4).number(1, 1);
    }

    static Request ofJob(int operation, int job) {
        return of(operation, 0).integer("job", job).end();
    }

    static Request list() {
        return of(LIST, 0).end();
    }

    /** A PRINT with an open second group. */
    static Request print() {
        return of(PRINT, 0).second();
    }

    /** A PRINT of so many pages, each all of one pixel: 1 in the first, 2 in the next. */
    Request pages(int many) {
        end();
        for (int i = 1; i <= many; i++) {
            data(80, 2, 3, i);
        }
        return this;
    }

    Request integer(String name, int value) {
        return attribute(33, name, value >>> 24, value >>> 16 & 255, value >>> 8 & 255, value & 255);
    }

    Request bool(String name, int value) {
        return attribute(34, name, value);
    }

    Request word(String name, String value) {
        return attribute(68, name, value.chars().toArray());
    }

    Request attribute(int tag, String name, int... value) {
        number(tag, 1).number(name.length(), 2).data(name.chars().toArray());
        return number(value.length, 2).data(value);
    }

    Request second() {
        return number(2, 1);
    }

    Request end() {
        return number(3, 1);
    }

    Request data(int... more) {
        Arrays.stream(more).forEach(bytes::add);
        return this;
    }

    Request number(int value, int width) {
        for (int i = width - 1; i >= 0; i--) {
            bytes.add(value >>> 8 * i & 255);
        }
        return this;
    }

    int[] bytes() {
        return bytes.stream().mapToInt(Integer::intValue).toArray();
    }

    /** Puts the bytes, eight at a time; the number of calls. */
    int draft(PrintHouse house) {
        int calls = 0;
        for (int from = 0; from < bytes.size(); from += 8) {
            int to = Math.min(from + 8, bytes.size());
            long v = 0;
            for (int i = from; i < to; i++) {
                v = v << 8 | bytes.get(i);
            }
            if (!house.put(v, to - from)) {
                throw new AssertionError("a request of " + bytes.size() + " bytes is too long");
            }
            calls++;
        }
        return calls;
    }

    int send(PrintHouse house) {
        draft(house);
        return house.request();
    }

    static String reply(PrintHouse house) {
        return all(house::reply);
    }

    static String sheet(PrintHouse house) {
        return all(house::sheet);
    }

    /** Asks once for each byte: an object is good for 512 calls. */
    private static String all(IntUnaryOperator byteAt) {
        StringBuilder text = new StringBuilder();
        int value = byteAt.applyAsInt(0);
        for (int k = 1; value != PrintHouse.NONE; k++) {
            text.append(k == 1 ? "" : " ").append(value);
            value = byteAt.applyAsInt(k);
        }
        return text.toString();
    }

    /** An integer attribute as a reply has it. */
    static String told(String name, int value) {
        Request one = new Request().integer(name, value);
        StringBuilder text = new StringBuilder();
        for (int each : one.bytes) {
            text.append(' ').append(each);
        }
        return text.toString();
    }
}
