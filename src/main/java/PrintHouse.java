/**
 * A house that prints: it takes requests as bytes, keeps its jobs in a log on a disk that may stop
 * at any block, and sends a sheet with each tick.
 *
 * All rows are made by the constructor and used again: a call makes no object, but for what it
 * throws.
 */
public final class PrintHouse {

    public static final int NONE = -1;

    private static final int DRAFT_ROOM = 240;
    /** Above a LIST of the eighteen jobs that 36 blocks can hold: 18 * 27 + 9 bytes. */
    private static final int REPLY_ROOM = 512;
    /** Above two sides of six rows with two bytes for each of eight pixels: 4 + 2 * 6 * 17 bytes. */
    private static final int SHEET_ROOM = 256;
    /** The shortest attribute has seven bytes, and a draft 240. */
    private static final int MOST_ATTRIBUTES = 34;
    private static final int LONGEST_WORD = 8;

    private static final int VERSION = 1;
    private static final int HEADER = 8;
    private static final int FIRST_GROUP = 1;
    private static final int SECOND_GROUP = 2;
    private static final int END_OF_GROUPS = 3;
    private static final int INTEGER = 33;
    private static final int BOOLEAN = 34;
    private static final int WORD = 68;

    private static final int PRINT = 2;
    private static final int CANCEL = 8;
    private static final int ASK = 9;
    private static final int LIST = 10;
    private static final int HOLD = 12;
    private static final int RELEASE = 13;

    private static final int STATUS_OK = 0;
    private static final int STATUS_BAD = 1024;
    private static final int STATUS_NOT_ALLOWED = 1028;
    private static final int STATUS_NOT_KNOWN = 1030;
    private static final int STATUS_TOO_MANY_PAGES = 1032;
    private static final int STATUS_SETTING = 1035;
    private static final int STATUS_NO_PAGES = 1041;
    private static final int STATUS_NO_OPERATION = 1281;
    private static final int STATUS_VERSION = 1283;
    private static final int STATUS_FULL = 1287;

    private static final int PENDING = 3;
    private static final int HELD = 4;
    private static final int PROCESSING = 5;
    private static final int CANCELED = 7;
    private static final int COMPLETED = 9;

    private static final int SIDES_ONE = 0;
    private static final int SIDES_LONG = 1;
    private static final int SIDES_SHORT = 2;

    private static final int PAGE_MARK = 80;
    private static final int SHEET_MARK = 83;
    private static final int PAGE_WIDTH = 4;
    private static final int PAGE_HEIGHT = 3;
    private static final int PAGE_PIXELS = 12;
    private static final int MOST_PAGES = 6;
    private static final int LARGEST_SIDE = 48;
    private static final int NO_RUN = 128;

    private static final int LOG_ROOM = 40;
    private static final int MOST_LIVE_BLOCKS = 36;
    /** Every job that is known has at least two blocks in the log. */
    private static final int MOST_JOBS = LOG_ROOM / 2;

    /*
     * A word has at most eight letters, so it fits into a long, a byte for each letter: two words
     * are compared with == and none has to be kept as a text.
     */
    private static final long NAME_JOB = 0x6a6f62L;
    private static final long NAME_STATE = 0x7374617465L;
    private static final long NAME_PAGES = 0x7061676573L;
    private static final long NAME_COPIES = 0x636f70696573L;
    private static final long NAME_PRIORITY = 0x7072696f72697479L;
    private static final long NAME_SENT = 0x73656e74L;
    private static final long NAME_UP = 0x7570L;
    private static final long NAME_SIDES = 0x7369646573L;
    private static final long NAME_BOOKLET = 0x626f6f6b6c6574L;
    private static final long NAME_HOLD = 0x686f6c64L;
    private static final long WORD_ONE = 0x6f6e65L;
    private static final long WORD_LONG = 0x6c6f6e67L;
    private static final long WORD_SHORT = 0x73686f7274L;

    private final Bytes draft;
    private final Message message;
    private final PageReader pageReader;
    /** What a PRINT asks for, until its transaction is done. */
    private final Job wanted;
    private final Disk disk;
    private final Spool spool;
    private final Bytes answer;
    private final Press press;

    public PrintHouse() {
        draft = new Bytes(DRAFT_ROOM);
        message = new Message(draft);
        pageReader = new PageReader(draft);
        wanted = new Job();
        disk = new Disk();
        spool = new Spool(disk);
        answer = new Bytes(REPLY_ROOM);
        press = new Press();
    }

    public boolean put(long v, int n) {
        if (n < 1 || n > 8 || draft.length() + n > DRAFT_ROOM) {
            return false;
        }
        draft.addNumber(v, n);
        return true;
    }

    public int request() throws IllegalStateException {
        refuseIfDown();
        message.read();
        int status = statusOfMessage();
        boolean isUp = status != STATUS_OK || carryOut();
        if (isUp) {
            writeReply(status);
        }
        draft.clear();
        return isUp ? status : goneDown();
    }

    public int reply(int k) {
        return answer.at(k);
    }

    public int tick() throws IllegalStateException {
        refuseIfDown();
        Job next = spool.processing();
        if (next == null) {
            next = spool.firstPending();
            if (next == null) {
                return 0;
            }
            if (!spool.changeState(next, PROCESSING)) {
                return goneDown();
            }
        }
        press.send(next);
        if (next.sent >= next.sheets() && !spool.changeState(next, COMPLETED)) {
            return goneDown();
        }
        return next.number;
    }

    public int sheet(int k) {
        return press.latest.at(k);
    }

    public boolean stop(int k) throws IllegalStateException {
        refuseIfDown();
        if (k < 0) {
            return false;
        }
        disk.stopAfter(k);
        return true;
    }

    public boolean restart() {
        if (disk.isUp()) {
            return false;
        }
        spool.beginPassesAnew();
        disk.comeUp();
        return true;
    }

    public int job(int number, int what) throws IllegalStateException, IndexOutOfBoundsException {
        refuseIfDown();
        Job known = spool.find(number);
        if (known == null || what < 0 || what > 8) {
            throw new IndexOutOfBoundsException("no such job, or nothing such of it");
        }
        return known.fact(what);
    }

    public int pixel(int number, int page, int at) throws IllegalStateException, IndexOutOfBoundsException {
        refuseIfDown();
        Job known = spool.find(number);
        if (known == null || !known.hasPage(page) || at < 0 || at >= PAGE_PIXELS) {
            throw new IndexOutOfBoundsException("no such pixel");
        }
        return known.pixels[page * PAGE_PIXELS + at];
    }

    public int count(int what) {
        switch (what) {
            case 0:
                return disk.written;
            case 1:
                return disk.logged;
            case 2:
                return press.sheets;
            case 3:
                return spool.known;
            case 4:
                return spool.nextNumber;
            case 5:
                return disk.isUp() ? 1 : 0;
            case 6:
                return draft.length();
            default:
                return NONE;
        }
    }

    private void refuseIfDown() {
        if (!disk.isUp()) {
            throw new IllegalStateException("the house is down");
        }
    }

    /** The reply goes with the house; the latest sheet is on paper and stays. */
    private int goneDown() {
        answer.clear();
        return NONE;
    }

    private int statusOfMessage() {
        if (message.isOfOtherVersion()) {
            return STATUS_VERSION;
        }
        if (!message.wellFormed) {
            return STATUS_BAD;
        }
        switch (message.operation) {
            case PRINT:
                return statusOfPrint();
            case LIST:
                return message.isBare() ? STATUS_OK : STATUS_BAD;
            case CANCEL:
            case ASK:
            case HOLD:
            case RELEASE:
                return message.isBare() && message.namesJob() ? statusOfJobRequest() : STATUS_BAD;
            default:
                return STATUS_NO_OPERATION;
        }
    }

    private int statusOfPrint() {
        wanted.setDefaults();
        if (!message.readSettings(wanted)) {
            return STATUS_SETTING;
        }
        if (!pageReader.read(message.dataAt, wanted)) {
            return STATUS_NO_PAGES;
        }
        if (wanted.pages > MOST_PAGES) {
            return STATUS_TOO_MANY_PAGES;
        }
        return spool.liveBlocks() + wanted.blocks() > MOST_LIVE_BLOCKS ? STATUS_FULL : STATUS_OK;
    }

    private int statusOfJobRequest() {
        Job named = spool.find(message.jobNumber());
        if (named == null) {
            return STATUS_NOT_KNOWN;
        }
        return isAllowed(message.operation, named) ? STATUS_OK : STATUS_NOT_ALLOWED;
    }

    private static boolean isAllowed(int operation, Job named) {
        switch (operation) {
            case CANCEL:
                return !named.hasEnded();
            case HOLD:
                return named.state == PENDING;
            case RELEASE:
                return named.state == HELD;
            default:
                return true;
        }
    }

    /** False if the house went down. */
    private boolean carryOut() {
        if (message.operation == PRINT) {
            return spool.admit(wanted);
        }
        int state = stateAfter(message.operation);
        Job named = spool.find(message.jobNumber());
        return state == NONE || named == null || spool.changeState(named, state);
    }

    /** NONE for what changes nothing. */
    private static int stateAfter(int operation) {
        switch (operation) {
            case CANCEL:
                return CANCELED;
            case HOLD:
                return HELD;
            case RELEASE:
                return PENDING;
            default:
                return NONE;
        }
    }

    private void writeReply(int status) {
        answer.clear();
        answer.add(VERSION);
        answer.add(VERSION);
        answer.addNumber(status, 2);
        answer.addNumber(message.number, 4);
        if (status == STATUS_OK && message.operation == LIST) {
            tellOfAll();
        } else if (status == STATUS_OK) {
            tellOf(message.operation == PRINT ? spool.newest() : spool.find(message.jobNumber()));
        }
        answer.add(END_OF_GROUPS);
    }

    private void tellOfAll() {
        Job last = null;
        for (int i = 0; i < MOST_JOBS; i++) {
            last = spool.following(last);
            if (last == null) {
                return;
            }
            tellOf(last);
        }
    }

    private void tellOf(Job told) {
        if (told == null) {
            return;
        }
        answer.add(SECOND_GROUP);
        answer.addInteger(NAME_JOB, told.number);
        answer.addInteger(NAME_STATE, told.state);
        if (message.operation == ASK) {
            answer.addInteger(NAME_PAGES, told.pages);
            answer.addInteger(NAME_COPIES, told.copies);
            answer.addInteger(NAME_PRIORITY, told.priority);
            answer.addInteger(NAME_SENT, told.sent);
        }
    }

    /** A row of bytes with a fixed room: it is written at its end and read at a cursor. */
    private static final class Bytes {
        private final int[] row;
        private int length;
        private int cursor;

        Bytes(int room) {
            row = new int[room];
        }

        void clear() {
            length = 0;
            cursor = 0;
        }

        int length() {
            return length;
        }

        int at(int k) {
            return k >= 0 && k < length ? row[k] : NONE;
        }

        void add(int value) {
            if (length < row.length) {
                row[length] = value & 255;
                length++;
            }
        }

        void addNumber(long value, int bytes) {
            for (int i = bytes - 1; i >= 0; i--) {
                add((int) (value >> (8 * i)));
            }
        }

        void addInteger(long name, int value) {
            int letters = lettersOf(name);
            add(INTEGER);
            addNumber(letters, 2);
            addNumber(name, letters);
            addNumber(4, 2);
            addNumber(value, 4);
        }

        private static int lettersOf(long word) {
            int letters = 0;
            for (int i = 0; i < LONGEST_WORD; i++) {
                if (((word >> (8 * i)) & 255) != 0) {
                    letters++;
                }
            }
            return letters;
        }

        void seek(int place) {
            cursor = place;
        }

        boolean has(int bytes) {
            return bytes <= length - cursor;
        }

        int next() {
            if (cursor < 0 || cursor >= length) {
                return NONE;
            }
            int value = row[cursor];
            cursor++;
            return value;
        }

        /** NONE if there are not so many bytes left: only for numbers of less than eight bytes. */
        long nextNumber(int bytes) {
            if (!has(bytes)) {
                return NONE;
            }
            long value = 0;
            for (int i = 0; i < bytes; i++) {
                value = value << 8 | next();
            }
            return value;
        }

        /** 0 if what comes is not a word of so many letters. */
        long nextWord(int letters) {
            if (letters < 1 || letters > LONGEST_WORD) {
                return 0;
            }
            long word = 0;
            for (int i = 0; i < letters; i++) {
                int letter = next();
                if (letter < 'a' || letter > 'z') {
                    return 0;
                }
                word = word << 8 | letter;
            }
            return word;
        }
    }

    /** The request that is drafted, as it was read. */
    private static final class Message {
        private final Bytes draft;
        private final int[] tags;
        private final long[] names;
        private final long[] values;
        private int attributes;
        private int firstGroup;
        private boolean secondGroup;
        private boolean wellFormed;
        private int operation;
        private int number;
        private int dataAt;

        Message(Bytes draft) {
            this.draft = draft;
            tags = new int[MOST_ATTRIBUTES];
            names = new long[MOST_ATTRIBUTES];
            values = new long[MOST_ATTRIBUTES];
        }

        void read() {
            attributes = 0;
            firstGroup = 0;
            secondGroup = false;
            wellFormed = false;
            operation = NONE;
            number = 0;
            dataAt = 0;
            if (draft.length() >= HEADER) {
                draft.seek(2);
                operation = (int) draft.nextNumber(2);
                number = (int) draft.nextNumber(4);
                wellFormed = readGroups();
            }
        }

        private boolean readGroups() {
            if (draft.next() != FIRST_GROUP || !readGroup()) {
                return false;
            }
            firstGroup = attributes;
            int mark = draft.next();
            if (mark == SECOND_GROUP) {
                secondGroup = true;
                if (!readGroup()) {
                    return false;
                }
                mark = draft.next();
            }
            dataAt = draft.cursor;
            return mark == END_OF_GROUPS;
        }

        private boolean readGroup() {
            int start = attributes;
            for (int i = 0; i < MOST_ATTRIBUTES && isTag(draft.at(draft.cursor)); i++) {
                if (!readAttribute() || isLastNameTwice(start)) {
                    return false;
                }
            }
            return true;
        }

        private static boolean isTag(int value) {
            return value == INTEGER || value == BOOLEAN || value == WORD;
        }

        private boolean readAttribute() {
            if (attributes >= MOST_ATTRIBUTES) {
                return false;
            }
            int tag = draft.next();
            long name = draft.nextWord((int) draft.nextNumber(2));
            if (name == 0) {
                return false;
            }
            int bytes = (int) draft.nextNumber(2);
            if (!isLengthOf(tag, bytes) || !draft.has(bytes)) {
                return false;
            }
            long value = tag == WORD ? draft.nextWord(bytes) : (int) draft.nextNumber(bytes);
            if (!isValueOf(tag, value)) {
                return false;
            }
            tags[attributes] = tag;
            names[attributes] = name;
            values[attributes] = value;
            attributes++;
            return true;
        }

        private static boolean isLengthOf(int tag, int bytes) {
            switch (tag) {
                case INTEGER:
                    return bytes == 4;
                case BOOLEAN:
                    return bytes == 1;
                default:
                    return bytes >= 1 && bytes <= LONGEST_WORD;
            }
        }

        private static boolean isValueOf(int tag, long value) {
            switch (tag) {
                case INTEGER:
                    return true;
                case BOOLEAN:
                    return value <= 1;
                default:
                    return value != 0;
            }
        }

        private boolean isLastNameTwice(int start) {
            int last = attributes - 1;
            for (int i = start; i < last; i++) {
                if (names[i] == names[last]) {
                    return true;
                }
            }
            return false;
        }

        boolean isOfOtherVersion() {
            return draft.length() >= 2 && (draft.at(0) != VERSION || draft.at(1) != VERSION);
        }

        /** Without a second group, even an empty one, and without data. */
        boolean isBare() {
            return !secondGroup && dataAt >= draft.length();
        }

        private int jobAttribute() {
            for (int i = 0; i < firstGroup; i++) {
                if (names[i] == NAME_JOB && tags[i] == INTEGER) {
                    return i;
                }
            }
            return NONE;
        }

        boolean namesJob() {
            return jobAttribute() != NONE;
        }

        int jobNumber() {
            int at = jobAttribute();
            return at == NONE ? 0 : (int) values[at];
        }

        /** False if one of the settings, or the lot of them, is not allowed. */
        boolean readSettings(Job wanted) {
            for (int i = firstGroup; i < attributes; i++) {
                if (!wanted.set(tags[i], names[i], values[i])) {
                    return false;
                }
            }
            return wanted.booklet == 0 || wanted.up == 1;
        }
    }

    private static final class Job {
        private final int[] pixels;
        private int number;
        private int state;
        private int copies;
        private int priority;
        private int up;
        private int sides;
        private int booklet;
        private int pages;
        private int sent;

        Job() {
            pixels = new int[MOST_PAGES * PAGE_PIXELS];
            up = 1;
        }

        void setDefaults() {
            state = PENDING;
            copies = 1;
            priority = 50;
            up = 1;
            sides = SIDES_ONE;
            booklet = 0;
            pages = 0;
            sent = 0;
        }

        void copyFrom(Job other) {
            state = other.state;
            copies = other.copies;
            priority = other.priority;
            up = other.up;
            sides = other.sides;
            booklet = other.booklet;
            pages = other.pages;
            sent = other.sent;
            System.arraycopy(other.pixels, 0, pixels, 0, pixels.length);
        }

        /** False if there is no such setting, or it can't have that value. */
        boolean set(int tag, long name, long value) {
            switch (tag) {
                case INTEGER:
                    return setInteger(name, (int) value);
                case BOOLEAN:
                    return setBoolean(name, (int) value);
                default:
                    return name == NAME_SIDES && setSides(value);
            }
        }

        private boolean setInteger(long name, int value) {
            if (name == NAME_COPIES) {
                copies = value;
                return value >= 1 && value <= 3;
            }
            if (name == NAME_PRIORITY) {
                priority = value;
                return value >= 1 && value <= 100;
            }
            if (name == NAME_UP) {
                up = value;
                return value == 1 || value == 2 || value == 4;
            }
            return false;
        }

        private boolean setBoolean(long name, int value) {
            if (name == NAME_HOLD) {
                state = value == 1 ? HELD : PENDING;
                return true;
            }
            if (name == NAME_BOOKLET) {
                booklet = value;
                return true;
            }
            return false;
        }

        private boolean setSides(long word) {
            if (word == WORD_ONE) {
                sides = SIDES_ONE;
            } else if (word == WORD_LONG) {
                sides = SIDES_LONG;
            } else {
                sides = SIDES_SHORT;
            }
            return word == WORD_ONE || word == WORD_LONG || word == WORD_SHORT;
        }

        boolean hasEnded() {
            return state == CANCELED || state == COMPLETED;
        }

        int blocks() {
            return 1 + pages;
        }

        boolean hasPage(int page) {
            return page >= 0 && page < pages && page < MOST_PAGES;
        }

        /** 0 where there is no page: that is how a cell left over looks. */
        int pixelAt(int page, int row, int column) {
            return hasPage(page) ? pixels[page * PAGE_PIXELS + row * PAGE_WIDTH + column] : 0;
        }

        /** A booklet has two sides whatever sides says. */
        int sidesOfSheet() {
            return booklet == 1 || sides != SIDES_ONE ? 2 : 1;
        }

        int sheetsOfCopy() {
            return booklet == 1 ? parts(pages, 4) : parts(parts(pages, up), sidesOfSheet());
        }

        private static int parts(int whole, int size) {
            return size < 1 ? 0 : (whole + size - 1) / size;
        }

        int sheets() {
            return copies * sheetsOfCopy();
        }

        int nextSheetOfCopy() {
            int all = sheetsOfCopy();
            return all < 1 ? 0 : sent % all;
        }

        /** The page, from 0, in a cell of a side (0 front, 1 back) of a sheet; there may be none. */
        int pageIn(int sheetOfCopy, int side, int cell) {
            if (booklet == 0) {
                return (sheetOfCopy * sidesOfSheet() + side) * up + cell;
            }
            int fromStart = 2 * sheetOfCopy + side;
            int fromEnd = 4 * sheetsOfCopy() - 1 - fromStart;
            return side == cell ? fromEnd : fromStart;
        }

        int fact(int what) {
            switch (what) {
                case 0:
                    return state;
                case 1:
                    return copies;
                case 2:
                    return priority;
                case 3:
                    return up;
                case 4:
                    return sides;
                case 5:
                    return booklet;
                case 6:
                    return pages;
                case 7:
                    return sent;
                default:
                    return sheets();
            }
        }
    }

    /** Reads the data of a PRINT into the pages of a job. */
    private static final class PageReader {
        private final Bytes draft;
        private final int[] row;

        PageReader(Bytes draft) {
            this.draft = draft;
            row = new int[PAGE_WIDTH];
        }

        /** Counts pages beyond the sixth, too: data that are no pages come before too many of them. */
        boolean read(int dataAt, Job wanted) {
            draft.seek(dataAt);
            for (int i = 0; i < DRAFT_ROOM && draft.has(1); i++) {
                if (draft.next() != PAGE_MARK || !readRaster(wanted)) {
                    return false;
                }
                wanted.pages++;
            }
            return wanted.pages > 0;
        }

        private boolean readRaster(Job wanted) {
            int top = 0;
            for (int i = 0; i < PAGE_HEIGHT && top < PAGE_HEIGHT; i++) {
                int bottom = top + draft.next() + 1;
                if (bottom <= top || bottom > PAGE_HEIGHT || !readRow()) {
                    return false;
                }
                keepRow(wanted, top, bottom);
                top = bottom;
            }
            return top == PAGE_HEIGHT;
        }

        private boolean readRow() {
            int left = 0;
            for (int i = 0; i < PAGE_WIDTH && left < PAGE_WIDTH; i++) {
                int head = draft.next();
                int right = left + runLength(head);
                int bytes = head < NO_RUN ? 1 : right - left;
                if (right <= left || right > PAGE_WIDTH || !draft.has(bytes)) {
                    return false;
                }
                for (int x = left; x < right; x++) {
                    row[x] = x < left + bytes ? draft.next() : row[left];
                }
                left = right;
            }
            return left == PAGE_WIDTH;
        }

        private static int runLength(int head) {
            if (head < 0 || head == NO_RUN) {
                return 0;
            }
            return head < NO_RUN ? head + 1 : 257 - head;
        }

        private void keepRow(Job wanted, int top, int bottom) {
            if (wanted.pages >= MOST_PAGES) {
                return;
            }
            for (int y = top; y < bottom; y++) {
                System.arraycopy(row, 0, wanted.pixels, wanted.pages * PAGE_PIXELS + y * PAGE_WIDTH, PAGE_WIDTH);
            }
        }
    }

    /** Counts the blocks; the jobs themselves show only transactions that are done. */
    private static final class Disk {
        private int written;
        private int logged;
        private boolean up;
        private int blocksToStop;

        Disk() {
            up = true;
            blocksToStop = NONE;
        }

        boolean isUp() {
            return up;
        }

        void stopAfter(int blocks) {
            blocksToStop = blocks;
        }

        void comeUp() {
            up = true;
        }

        /** False if the house went down before the last one. */
        boolean write(int blocks) {
            for (int i = 0; i < blocks; i++) {
                if (blocksToStop == 0) {
                    blocksToStop = NONE;
                    up = false;
                    return false;
                }
                if (blocksToStop > 0) {
                    blocksToStop--;
                }
                written++;
            }
            return true;
        }
    }

    /** The jobs that are known, by rising number, and the transactions that change them. */
    private static final class Spool {
        private final Disk disk;
        private final Job[] jobs;
        private int known;
        private int nextNumber;

        Spool(Disk disk) {
            this.disk = disk;
            jobs = new Job[MOST_JOBS];
            for (int i = 0; i < MOST_JOBS; i++) {
                jobs[i] = new Job();
            }
            nextNumber = 1;
        }

        Job find(int number) {
            for (int i = 0; i < known; i++) {
                if (jobs[i].number == number) {
                    return jobs[i];
                }
            }
            return null;
        }

        Job newest() {
            return known > 0 ? jobs[known - 1] : null;
        }

        int liveBlocks() {
            int blocks = 0;
            for (int i = 0; i < known; i++) {
                if (!jobs[i].hasEnded()) {
                    blocks += jobs[i].blocks();
                }
            }
            return blocks;
        }

        Job processing() {
            for (int i = 0; i < known; i++) {
                if (jobs[i].state == PROCESSING) {
                    return jobs[i];
                }
            }
            return null;
        }

        Job firstPending() {
            Job first = null;
            for (int i = 0; i < known; i++) {
                if (jobs[i].state == PENDING && (first == null || isBefore(jobs[i], first))) {
                    first = jobs[i];
                }
            }
            return first;
        }

        /** The job that LIST has behind another one; the first of all behind null. */
        Job following(Job last) {
            Job next = null;
            for (int i = 0; i < known; i++) {
                Job each = jobs[i];
                boolean isBehind = !each.hasEnded() && (last == null || isBefore(last, each));
                if (isBehind && (next == null || isBefore(each, next))) {
                    next = each;
                }
            }
            return next;
        }

        private static boolean isBefore(Job one, Job other) {
            if ((one.state == PROCESSING) != (other.state == PROCESSING)) {
                return one.state == PROCESSING;
            }
            if (one.priority != other.priority) {
                return one.priority > other.priority;
            }
            return one.number < other.number;
        }

        /** False if the house went down. */
        boolean admit(Job wanted) {
            if (!isLogged(wanted.blocks())) {
                return false;
            }
            if (known < MOST_JOBS) {
                jobs[known].copyFrom(wanted);
                jobs[known].number = nextNumber;
                known++;
                nextNumber++;
            }
            return true;
        }

        /** False if the house went down. */
        boolean changeState(Job changed, int state) {
            if (!isLogged(1)) {
                return false;
            }
            changed.state = state;
            return true;
        }

        private boolean isLogged(int blocks) {
            if (disk.logged + blocks > LOG_ROOM && !isLogRenewed()) {
                return false;
            }
            if (!disk.write(blocks)) {
                return false;
            }
            disk.logged += blocks;
            return true;
        }

        /** The old log counts until the one block more with which the new one takes its place. */
        private boolean isLogRenewed() {
            int live = liveBlocks();
            if (!disk.write(live + 1)) {
                return false;
            }
            disk.logged = live;
            forgetEnded();
            return true;
        }

        private void forgetEnded() {
            int kept = 0;
            for (int i = 0; i < known; i++) {
                Job each = jobs[i];
                if (!each.hasEnded()) {
                    jobs[i] = jobs[kept];
                    jobs[kept] = each;
                    kept++;
                }
            }
            known = kept;
        }

        /** How far a pass was is not in the log, but for COMPLETED jobs, which sent all. */
        void beginPassesAnew() {
            for (int i = 0; i < known; i++) {
                if (jobs[i].state != COMPLETED) {
                    jobs[i].sent = 0;
                }
            }
        }
    }

    /** Puts pages on the sides of sheets and writes these as rasters. */
    private static final class Press {
        private final Bytes latest;
        private final int[] side;
        private int sheets;
        private boolean isTurned;
        private int columns;
        private int rows;
        private int width;
        private int height;

        Press() {
            latest = new Bytes(SHEET_ROOM);
            side = new int[LARGEST_SIDE];
        }

        void send(Job printed) {
            layOut(printed);
            latest.clear();
            latest.add(SHEET_MARK);
            latest.add(width);
            latest.add(height);
            latest.add(printed.sidesOfSheet());
            for (int i = 0; i < printed.sidesOfSheet(); i++) {
                fillSide(printed, i);
                writeSide();
            }
            printed.sent++;
            sheets++;
        }

        private void layOut(Job printed) {
            isTurned = printed.booklet == 1 || printed.up == 2;
            columns = isTurned || printed.up == 4 ? 2 : 1;
            rows = printed.up == 4 ? 2 : 1;
            width = columns * cellWidth();
            height = rows * cellHeight();
        }

        private int cellWidth() {
            return isTurned ? PAGE_HEIGHT : PAGE_WIDTH;
        }

        private int cellHeight() {
            return isTurned ? PAGE_WIDTH : PAGE_HEIGHT;
        }

        private void fillSide(Job printed, int which) {
            int sheetOfCopy = printed.nextSheetOfCopy();
            for (int y = 0; y < rows; y++) {
                for (int x = 0; x < columns; x++) {
                    fillCell(printed, printed.pageIn(sheetOfCopy, which, y * columns + x), x, y);
                }
            }
            if (which == 1 && printed.booklet == 0 && printed.sides == SIDES_SHORT) {
                turnSideByHalf();
            }
        }

        private void fillCell(Job printed, int page, int column, int row) {
            int corner = row * cellHeight() * width + column * cellWidth();
            for (int y = 0; y < cellHeight(); y++) {
                for (int x = 0; x < cellWidth(); x++) {
                    side[corner + y * width + x] = isTurned
                        ? printed.pixelAt(page, PAGE_HEIGHT - 1 - x, y)
                        : printed.pixelAt(page, y, x);
                }
            }
        }

        /** Row by row from the end is the same as turned by a half. */
        private void turnSideByHalf() {
            int last = width * height - 1;
            int half = width * height / 2;
            for (int i = 0; i < half; i++) {
                int moved = side[i];
                side[i] = side[last - i];
                side[last - i] = moved;
            }
        }

        private void writeSide() {
            int y = 0;
            for (int i = 0; i < height && y < height; i++) {
                int alike = equalRows(y);
                latest.add(alike - 1);
                writeRow(y * width);
                y += alike;
            }
        }

        private int equalRows(int y) {
            int alike = 1;
            for (int other = y + 1; other < height && areRowsEqual(y, other); other++) {
                alike++;
            }
            return alike;
        }

        private boolean areRowsEqual(int y, int other) {
            for (int x = 0; x < width; x++) {
                if (side[y * width + x] != side[other * width + x]) {
                    return false;
                }
            }
            return true;
        }

        private void writeRow(int start) {
            int end = start + width;
            int at = start;
            for (int i = 0; i < width && at < end; i++) {
                int next = endOfEqual(at, end);
                if (next - at > 1) {
                    latest.add(next - at - 1);
                    latest.add(side[at]);
                } else {
                    next = endOfUnlike(at, end);
                    writeUnlike(at, next);
                }
                at = next;
            }
        }

        private int endOfEqual(int at, int end) {
            int next = at + 1;
            for (int i = at + 1; i < end && side[i] == side[at]; i++) {
                next++;
            }
            return next;
        }

        /** Behind a pixel that differs from the next: where the next two that are the same begin. */
        private int endOfUnlike(int at, int end) {
            for (int i = at + 1; i + 1 < end; i++) {
                if (side[i] == side[i + 1]) {
                    return i;
                }
            }
            return end;
        }

        private void writeUnlike(int at, int next) {
            int pixels = next - at;
            latest.add(pixels == 1 ? 0 : 257 - pixels);
            for (int i = at; i < next; i++) {
                latest.add(side[i]);
            }
        }
    }
}
