/**
 * All that can be seen of a house behind a run of calls, as a text. The run is made on a new object
 * for each look at it, as an object is good for 512 calls.
 */
final class View {

    interface Run {
        void on(PrintHouse house);

        default Run then(Run next) {
            return house -> {
                on(house);
                next.on(house);
            };
        }
    }

    private View() {
    }

    static String all(Run run) {
        return house(run) + "\nreply " + Request.reply(made(run)) + "\ndraft " + draft(run);
    }

    /** Without the draft and the reply. */
    static String house(Run run) {
        StringBuilder text = new StringBuilder("counts");
        PrintHouse house = made(run);
        for (int what = 0; what <= 5; what++) {
            text.append(' ').append(house.count(what));
        }
        text.append("\nsheet ").append(Request.sheet(made(run)));
        int next = house.count(4);
        for (int number = 0; number <= next; number++) {
            text.append("\njob ").append(number).append(job(run, number));
        }
        return text.append("\nticks").append(ticks(run)).append("\nstop ").append(stop(run)).toString();
    }

    private static PrintHouse made(Run run) {
        PrintHouse house = new PrintHouse();
        run.on(house);
        return house;
    }

    private static PrintHouse up(Run run) {
        PrintHouse house = made(run);
        house.restart();
        return house;
    }

    private static String job(Run run, int number) {
        PrintHouse house = up(run);
        StringBuilder text = new StringBuilder();
        for (int what = 0; what <= 8; what++) {
            int fact = what;
            text.append(' ').append(Check.outcome(() -> house.job(number, fact)));
        }
        if (text.indexOf("throws") >= 0) {
            return text.toString();
        }
        text.append(" pixels");
        for (int page = 0; page < house.job(number, 6); page++) {
            for (int at = 0; at < 12; at++) {
                text.append(' ').append(house.pixel(number, page, at));
            }
        }
        return text.toString();
    }

    /** The jobs and the sheets of the next ticks, which show where the passes are. */
    private static String ticks(Run run) {
        PrintHouse house = up(run);
        StringBuilder text = new StringBuilder();
        for (int i = 0; i < 4; i++) {
            text.append(' ').append(Check.outcome(house::tick)).append(": ").append(Request.sheet(house)).append(';');
        }
        return text.toString();
    }

    /** How many blocks are written until the house goes down, if it does so soon. */
    private static String stop(Run run) {
        PrintHouse house = made(run);
        if (house.count(5) == 0) {
            return "is over";
        }
        int before = house.count(0);
        int number = house.count(4);
        if (house.count(6) > 0) {
            house.request();
        }
        for (int i = 0; i < 14 && house.count(5) == 1; i++) {
            probe(i, number).send(house);
        }
        return house.count(5) == 1 ? "is not near" : "after " + (house.count(0) - before);
    }

    private static Request probe(int i, int number) {
        if (i == 0) {
            return Request.print().bool("hold", 1).pages(1);
        }
        return Request.ofJob(i % 2 == 0 ? Request.HOLD : Request.RELEASE, number);
    }

    /** Its length, and what is answered to it and a byte 3 behind it. */
    private static String draft(Run run) {
        PrintHouse house = up(run);
        return house.count(6) + " " + house.put(3, 1) + " " + Check.outcome(house::request) + " " + Request.reply(house);
    }
}
