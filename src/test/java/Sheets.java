/** The sheets of one job, each as a text of numbers, and pages to print. */
final class Sheets {

    private final Check check;

    Sheets(Check check) {
        this.check = check;
    }

    /** The job is the only one of a new house: its sheets, in order, and no other one. */
    void due(String what, Request print, String... want) {
        PrintHouse house = new PrintHouse();
        check.due(what + ": PRINT", print.send(house), 0);
        check.due(what + ": how many it has", house.job(1, 8), want.length);
        for (int i = 0; i < want.length; i++) {
            check.due(what + ": state before sheet " + i, house.job(1, 0), i == 0 ? 3 : 5);
            check.due(what + ": tick for sheet " + i, house.tick(), 1);
            check.due(what + ": sheet " + i, Request.sheet(house), want[i]);
        }
        check.due(what + ": state behind the last", house.job(1, 0), 9);
        check.due(what + ": sheets sent", house.job(1, 7), want.length);
        check.due(what + ": a tick more", house.tick(), 0);
        check.due(what + ": count(2)", house.count(2), want.length);
    }

    /** A page of twelve pixels, row by row. */
    static int[] page(int... pixels) {
        Request page = Request.raw(80);
        for (int y = 0; y < 3; y++) {
            page.data(0, 253, pixels[4 * y], pixels[4 * y + 1], pixels[4 * y + 2], pixels[4 * y + 3]);
        }
        return page.bytes();
    }

    /** A page of three rows alike. */
    static int[] rows(int a, int b, int c, int d) {
        return new int[] {80, 2, 253, a, b, c, d};
    }
}
