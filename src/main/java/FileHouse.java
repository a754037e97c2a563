import java.util.Arrays;

/**
 * A house of old files: it tells what MAKE each FILE is of, TURNS a FILE into one of another MAKE,
 * and finds the ROADS by which a FILE can still be read when MACHINES die.
 */
public final class FileHouse {

    /** There is none. */
    public static final int NONE = -1;

    private static final int WITHOUT_MARK = -2;
    private static final int WITHOUT_ROAD = -2;

    private static final int BYTE_MASK = 255;
    private static final int TAPE_BYTES = 80;
    private static final int FEED_BYTES = 20;
    private static final int MOST_FILE_BYTES = 60;
    private static final int MOST_MARK_BYTES = 4;
    private static final int RECORD_HEAD = 2;
    // The shortest MARK leaves 59 BYTES, and a whole RECORD takes two or more.
    private static final int MOST_RECORDS = 29;

    private static final int PROPERTY_COUNT = 12;
    private static final int ALL_PROPERTIES = 4095;
    private static final int MOST_BENDS = 3;
    private static final int MOST_MAKES = 12;
    private static final int MOST_FILES = 40;
    private static final int MOST_READERS = 24;
    private static final int MOST_TURNERS = 24;
    private static final int MOST_PRICE = 9999;
    private static final int MACHINE_COUNT = 8;
    private static final int FINAL_YEAR = 999;
    private static final int MOST_STEPS = 4;

    private static final int FIRST_BYTE_QUESTION = 100;

    private final ByteRow tape = new ByteRow(TAPE_BYTES);
    private final ByteRow draft = new ByteRow(MOST_FILE_BYTES);
    private final Make[] makes = new Make[MOST_MAKES];
    private final StoredFile[] files = new StoredFile[MOST_FILES];
    private final Machines machines = new Machines();
    private final Readers readers = new Readers();
    private final Turners turners = new Turners();
    private final Roads roads = new Roads();
    private final Spans spans = new Spans();
    private final Reading reading = new Reading();
    private final Reading otherReading = new Reading();
    private int makeCount = 0;
    private int fileCount = 0;
    private int thisYear = 0;
    private long toldRoad = Roads.EMPTY_ROAD;

    public FileHouse() {
    }

    public int feed(int a, int b, int c, int d, int e) {
        if (tape.room() < FEED_BYTES) {
            return NONE;
        }
        tape.addWord(a);
        tape.addWord(b);
        tape.addWord(c);
        tape.addWord(d);
        tape.addWord(e);
        return tape.size;
    }

    public int make(int n, int properties, boolean sum, int bends) {
        if (n < 1 || n > MOST_MARK_BYTES || n > tape.size || makeCount >= MOST_MAKES) {
            return NONE;
        }
        if (!areProperties(properties) || bends < 0 || bends > MOST_BENDS) {
            return NONE;
        }
        int number = makeCount;
        makes[number] = new Make(tape.firstBytes(n), properties, sum, bends);
        makeCount++;
        tape.clear();
        for (int f = 0; f < fileCount; f++) {
            judge(files[f], number);
        }
        return number;
    }

    public int file(int n) {
        if (n < 1 || n > MOST_FILE_BYTES || n > tape.size || fileCount >= MOST_FILES) {
            return NONE;
        }
        int number = store(tape.firstBytes(n), NONE, fileCount);
        tape.clear();
        return number;
    }

    public boolean must(int f, int set) {
        StoredFile file = fileAt(f);
        if (file == null || !areProperties(set)) {
            return false;
        }
        file.mustKeep = set;
        return true;
    }

    public boolean machine(int m, int surely, int maybe) {
        if (!machines.knows(m) || !isYear(surely) || !isYear(maybe) || maybe < surely) {
            return false;
        }
        machines.setEnds(m, surely, maybe);
        return true;
    }

    public boolean reader(int make, int machine) {
        if (makeAt(make) == null || !machines.knows(machine)) {
            return false;
        }
        return readers.add(make, machine);
    }

    public int turner(int from, int to, int drops, int price, int machine) {
        Make target = makeAt(to);
        if (makeAt(from) == null || target == null || from == to) {
            return NONE;
        }
        if (!areProperties(drops) || price < 0 || price > MOST_PRICE || !machines.knows(machine)) {
            return NONE;
        }
        return turners.add(from, to, target.properties & ~drops, price, machine);
    }

    public boolean year(int y) {
        if (!isYearToCome(y)) {
            return false;
        }
        thisYear = y;
        return true;
    }

    public int bends(int f, int m) {
        StoredFile file = fileAt(f);
        Make make = makeAt(m);
        if (file == null || make == null) {
            return NONE;
        }
        reading.readBy(make, file.bytes);
        return reading.bendCount;
    }

    public int know(int f) {
        StoredFile file = fileAt(f);
        return file == null ? NONE : file.makeNumber;
    }

    public int record(int f, int i, int what) {
        StoredFile file = fileAt(f);
        if (file == null) {
            return NONE;
        }
        readByOwnMake(file, reading);
        if (i < 0 || i >= reading.size) {
            return NONE;
        }
        switch (what) {
            case 0:
                return reading.tags[i];
            case 1:
                return reading.lengths[i];
            case 2:
                return reading.places[i];
            default:
                return NONE;
        }
    }

    public int turn(int f, int t) {
        StoredFile file = fileAt(f);
        Turner turner = turners.at(t);
        if (file == null || turner == null || file.makeNumber != turner.from) {
            return NONE;
        }
        if (!machines.liveSurely(turner.machine, thisYear) || fileCount >= MOST_FILES) {
            return NONE;
        }
        if (!draftTurned(file, turner)) {
            return NONE;
        }
        file.isSource = true;
        return store(draft.firstBytes(draft.size), f, file.first);
    }

    public int kept(int f, int g) {
        StoredFile one = fileAt(f);
        StoredFile other = fileAt(g);
        if (one == null || other == null) {
            return NONE;
        }
        readByOwnMake(one, reading);
        readByOwnMake(other, otherReading);
        int alike = 0;
        for (int p = 0; p < PROPERTY_COUNT; p++) {
            if (holds(reading.has, p) && reading.agrees(otherReading, p)) {
                alike |= 1 << p;
            }
        }
        return alike;
    }

    public int road(int f, int m) {
        StoredFile file = fileAt(f);
        if (file == null || makeAt(m) == null) {
            return NONE;
        }
        roads.search(file, turners, machines, thisYear);
        long found = roads.bestTo(m);
        if (found == Roads.NO_ROAD) {
            return NONE;
        }
        toldRoad = found;
        return Roads.priceOf(found);
    }

    public int step(int i) {
        return Roads.stepOf(toldRoad, i);
    }

    public int last(int f, boolean surely) {
        StoredFile file = fileAt(f);
        if (file == null) {
            return NONE;
        }
        spans.measure(readers, turners, machines, surely);
        return spans.lastYearOf(file.makeNumber);
    }

    public int plan(int y) {
        if (!isYearToCome(y)) {
            return NONE;
        }
        int goals = readers.makesOpenIn(machines, y);
        int price = 0;
        for (int f = 0; f < fileCount; f++) {
            StoredFile file = files[f];
            if (isPlanned(file)) {
                int target = cheapestGoal(file, goals);
                if (target == NONE) {
                    return WITHOUT_ROAD;
                }
                price += Roads.priceOf(roads.bestTo(target));
            }
        }
        return price;
    }

    public int goal(int y, int f) {
        StoredFile file = fileAt(f);
        if (!isYearToCome(y) || !isPlanned(file)) {
            return NONE;
        }
        return cheapestGoal(file, readers.makesOpenIn(machines, y));
    }

    public int look(int f, int what) {
        StoredFile file = fileAt(f);
        if (file == null) {
            return NONE;
        }
        switch (what) {
            case 0:
                return file.bytes.length;
            case 1:
                return file.recordCount;
            case 2:
                return file.has;
            case 3:
                return file.mustKeep;
            case 4:
                return file.from;
            case 5:
                return file.first;
            default:
                return byteAsked(file.bytes, what);
        }
    }

    public int count(int what) {
        switch (what) {
            case 0:
                return makeCount;
            case 1:
                return fileCount;
            case 2:
                return readers.size;
            case 3:
                return turners.size;
            case 4:
                return thisYear;
            case 5:
                return tape.size;
            case 6:
                return filesWithoutMake();
            case 7:
                return filesBeyondReading();
            default:
                return NONE;
        }
    }

    private static boolean areProperties(int set) {
        return set >= 0 && set <= ALL_PROPERTIES;
    }

    private static boolean holds(int set, int property) {
        return property >= 0 && property < PROPERTY_COUNT && (set >> property & 1) == 1;
    }

    private static boolean isYear(int y) {
        return y >= 0 && y <= FINAL_YEAR;
    }

    private boolean isYearToCome(int y) {
        return isYear(y) && y >= thisYear;
    }

    private Make makeAt(int m) {
        return m >= 0 && m < makeCount ? makes[m] : null;
    }

    private StoredFile fileAt(int f) {
        return f >= 0 && f < fileCount ? files[f] : null;
    }

    /** The caller has seen that there is room for one more FILE. */
    private int store(int[] bytes, int from, int first) {
        int number = fileCount;
        StoredFile file = new StoredFile(bytes, from, first);
        files[number] = file;
        fileCount++;
        for (int m = 0; m < makeCount; m++) {
            judge(file, m);
        }
        return number;
    }

    /**
     * BYTES and MAKES never change once they are there, so a FILE's MAKE is kept and only weighed
     * against a new one. MAKES come with rising numbers: a later one must have fewer BENDS.
     */
    private void judge(StoredFile file, int number) {
        Make make = makeAt(number);
        if (file == null || make == null) {
            return;
        }
        reading.readBy(make, file.bytes);
        if (reading.bendCount == WITHOUT_MARK || reading.bendCount > make.bearable) {
            return;
        }
        if (reading.bendCount < file.bendCount) {
            file.makeNumber = number;
            file.bendCount = reading.bendCount;
            file.has = reading.has;
            file.recordCount = reading.size;
        }
    }

    private void readByOwnMake(StoredFile file, Reading into) {
        Make make = makeAt(file.makeNumber);
        if (make == null) {
            into.clear();
        } else {
            into.readBy(make, file.bytes);
        }
    }

    /** Writes what the TURNER makes of the FILE into the draft; false if it is too long. */
    private boolean draftTurned(StoredFile file, Turner turner) {
        Make target = makeAt(turner.to);
        if (target == null) {
            return false;
        }
        readByOwnMake(file, reading);
        draft.clear();
        boolean fits = draft.addPart(target.mark, 0, target.mark.length);
        for (int i = 0; i < reading.size && fits; i++) {
            if (holds(turner.carries, reading.tags[i])) {
                fits = draft.addPart(file.bytes, reading.places[i] - RECORD_HEAD,
                        reading.lengths[i] + RECORD_HEAD);
            }
        }
        if (fits && target.hasSum) {
            fits = draft.addByte(sumOfFirst(draft.bytes, draft.size));
        }
        return fits;
    }

    private static int sumOfFirst(int[] bytes, int n) {
        int sum = 0;
        for (int i = 0; i < n && i < bytes.length; i++) {
            sum += bytes[i];
        }
        return sum & BYTE_MASK;
    }

    private static boolean isPlanned(StoredFile file) {
        return file != null && !file.isSource && file.makeNumber != NONE;
    }

    /** Leaves the FILE's ROADS in roads, so that the PRICE can be asked there. */
    private int cheapestGoal(StoredFile file, int goals) {
        roads.search(file, turners, machines, thisYear);
        int cheapest = NONE;
        long least = Roads.NO_ROAD;
        for (int m = 0; m < makeCount; m++) {
            if ((goals >> m & 1) == 1 && roads.bestTo(m) < least) {
                least = roads.bestTo(m);
                cheapest = m;
            }
        }
        return cheapest;
    }

    private static int byteAsked(int[] bytes, int what) {
        if (what < FIRST_BYTE_QUESTION || what - FIRST_BYTE_QUESTION >= bytes.length) {
            return NONE;
        }
        return bytes[what - FIRST_BYTE_QUESTION];
    }

    private int filesWithoutMake() {
        int without = 0;
        for (int f = 0; f < fileCount; f++) {
            if (know(f) == NONE) {
                without++;
            }
        }
        return without;
    }

    private int filesBeyondReading() {
        // No MACHINE lives MAYBE for a shorter time than SURELY, so MAYBE alone decides.
        spans.measure(readers, turners, machines, false);
        int beyond = 0;
        for (int f = 0; f < fileCount; f++) {
            if (spans.lastYearOf(know(f)) < thisYear) {
                beyond++;
            }
        }
        return beyond;
    }

    /** A row of BYTES that grows up to a fixed length. */
    private static final class ByteRow {
        final int[] bytes;
        int size = 0;

        ByteRow(int most) {
            bytes = new int[Math.max(most, 0)];
        }

        void clear() {
            size = 0;
        }

        int room() {
            return bytes.length - size;
        }

        boolean addByte(int value) {
            if (size >= bytes.length) {
                return false;
            }
            bytes[size] = value & BYTE_MASK;
            size++;
            return true;
        }

        void addWord(int word) {
            for (int shift = 24; shift >= 0; shift -= 8) {
                addByte(word >> shift);
            }
        }

        boolean addPart(int[] source, int start, int length) {
            if (start < 0 || length < 0 || length > source.length - start || length > room()) {
                return false;
            }
            System.arraycopy(source, start, bytes, size, length);
            size += length;
            return true;
        }

        int[] firstBytes(int n) {
            return Arrays.copyOf(bytes, Math.max(0, Math.min(n, size)));
        }
    }

    private static final class Make {
        final int[] mark;
        final int properties;
        final boolean hasSum;
        final int bearable;

        Make(int[] mark, int properties, boolean hasSum, int bearable) {
            this.mark = mark;
            this.properties = properties;
            this.hasSum = hasSum;
            this.bearable = bearable;
        }

        boolean marks(int[] bytes) {
            if (bytes.length < mark.length) {
                return false;
            }
            for (int i = 0; i < mark.length; i++) {
                if (bytes[i] != mark[i]) {
                    return false;
                }
            }
            return true;
        }
    }

    /** A FILE, with what its MAKE tells of it. */
    private static final class StoredFile {
        final int[] bytes;
        final int from;
        final int first;
        boolean isSource = false;
        int mustKeep = 0;
        int makeNumber = NONE;
        // More than any MAKE bears, so that the first one that FITS is taken.
        int bendCount = MOST_BENDS + 1;
        int has = 0;
        int recordCount = 0;

        StoredFile(int[] bytes, int from, int first) {
            this.bytes = bytes;
            this.from = from;
            this.first = first;
        }
    }

    /** The RECORDS and BENDS of one FILE READ BY one MAKE; its rows are used again and again. */
    private static final class Reading {
        final int[] tags = new int[MOST_RECORDS];
        final int[] lengths = new int[MOST_RECORDS];
        final int[] places = new int[MOST_RECORDS];
        int[] source = new int[0];
        int size = 0;
        int has = 0;
        int bendCount = 0;

        void clear() {
            size = 0;
            has = 0;
            bendCount = 0;
        }

        void readBy(Make make, int[] bytes) {
            clear();
            source = bytes;
            if (!make.marks(bytes)) {
                bendCount = WITHOUT_MARK;
                return;
            }
            int start = make.mark.length;
            int end = bytes.length;
            if (make.hasSum && end > start) {
                end--;
                bendCount = bytes[end] == sumOfFirst(bytes, end) ? 0 : 1;
            } else if (make.hasSum) {
                bendCount = 1;
            }
            readRecords(make.properties, start, end);
        }

        private void readRecords(int properties, int start, int end) {
            int place = start;
            for (int round = 0; round < MOST_FILE_BYTES && place < end; round++) {
                int tag = source[place];
                int begin = place + RECORD_HEAD;
                // A wanting LENGTH leaves less than nothing behind it, so 0 is too much as well.
                int length = place + 1 < end ? source[place + 1] : 0;
                boolean whole = length <= end - begin;
                if (whole && holds(properties, tag)) {
                    addRecord(tag, length, begin);
                } else {
                    bendCount++;
                }
                place = whole ? begin + length : end;
            }
        }

        private void addRecord(int tag, int length, int begin) {
            if (size >= MOST_RECORDS) {
                return;
            }
            tags[size] = tag;
            lengths[size] = length;
            places[size] = begin;
            size++;
            has |= 1 << tag;
        }

        boolean agrees(Reading other, int tag) {
            int theirs = other.nextWith(tag, 0);
            for (int mine = 0; mine < size; mine++) {
                if (tags[mine] == tag) {
                    if (theirs >= other.size || !sameRecord(mine, other, theirs)) {
                        return false;
                    }
                    theirs = other.nextWith(tag, theirs + 1);
                }
            }
            return theirs >= other.size;
        }

        private int nextWith(int tag, int start) {
            for (int i = start; i < size; i++) {
                if (tags[i] == tag) {
                    return i;
                }
            }
            return size;
        }

        private boolean sameRecord(int mine, Reading other, int theirs) {
            if (lengths[mine] != other.lengths[theirs]) {
                return false;
            }
            for (int i = 0; i < lengths[mine]; i++) {
                if (source[places[mine] + i] != other.source[other.places[theirs] + i]) {
                    return false;
                }
            }
            return true;
        }
    }

    private static final class Machines {
        private final int[] sureEnds = new int[MACHINE_COUNT];
        private final int[] doubtfulEnds = new int[MACHINE_COUNT];

        Machines() {
            Arrays.fill(sureEnds, FINAL_YEAR);
            Arrays.fill(doubtfulEnds, FINAL_YEAR);
        }

        boolean knows(int m) {
            return m >= 0 && m < MACHINE_COUNT;
        }

        void setEnds(int m, int sureEnd, int doubtfulEnd) {
            if (knows(m)) {
                sureEnds[m] = sureEnd;
                doubtfulEnds[m] = doubtfulEnd;
            }
        }

        int endOf(int m, boolean surely) {
            if (!knows(m)) {
                return NONE;
            }
            return surely ? sureEnds[m] : doubtfulEnds[m];
        }

        boolean liveSurely(int m, int y) {
            return y <= endOf(m, true);
        }
    }

    private static final class Readers {
        final int[] opened = new int[MOST_READERS];
        final int[] hosts = new int[MOST_READERS];
        int size = 0;

        boolean add(int make, int machine) {
            if (size >= MOST_READERS || isTold(make, machine)) {
                return false;
            }
            opened[size] = make;
            hosts[size] = machine;
            size++;
            return true;
        }

        private boolean isTold(int make, int machine) {
            for (int i = 0; i < size; i++) {
                if (opened[i] == make && hosts[i] == machine) {
                    return true;
                }
            }
            return false;
        }

        /** MAKES as bits that some READER opens on a MACHINE that lives SURELY in year y. */
        int makesOpenIn(Machines machines, int y) {
            int open = 0;
            for (int i = 0; i < size; i++) {
                if (machines.liveSurely(hosts[i], y)) {
                    open |= 1 << opened[i];
                }
            }
            return open;
        }
    }

    private static final class Turner {
        // Numbers of two MAKES that are there: they can be used as places in rows of MOST_MAKES.
        final int from;
        final int to;
        // PROPERTIES that the second MAKE holds and the TURNER does not drop.
        final int carries;
        final int price;
        final int machine;

        Turner(int from, int to, int carries, int price, int machine) {
            this.from = from;
            this.to = to;
            this.carries = carries;
            this.price = price;
            this.machine = machine;
        }

        boolean carriesAll(int needed) {
            return (needed & ~carries) == 0;
        }
    }

    private static final class Turners {
        private final Turner[] row = new Turner[MOST_TURNERS];
        int size = 0;

        int add(int from, int to, int carries, int price, int machine) {
            if (size >= MOST_TURNERS) {
                return NONE;
            }
            row[size] = new Turner(from, to, carries, price, machine);
            size++;
            return size - 1;
        }

        Turner at(int t) {
            return t >= 0 && t < size ? row[t] : null;
        }
    }

    /**
     * THE BEST ROADS from one FILE to every MAKE. A ROAD is one number: its PRICE, then how many
     * TURNERS it has, then the row of them, the first one highest. So the lesser number is the
     * better ROAD.
     */
    private static final class Roads {
        static final long NO_ROAD = 0x7fffffffffffffffL;
        static final long EMPTY_ROAD = 0L;

        // TURNERS are 0 to 23.
        private static final int STEP_BITS = 5;
        private static final int STEP_MASK = 31;
        private static final int ROW_BITS = 20;
        private static final int ROW_MASK = 0xfffff;
        private static final int LENGTH_BITS = 3;
        private static final int LENGTH_MASK = 7;

        private final long[] best = new long[MOST_MAKES];
        private final long[] reached = new long[MOST_MAKES];
        private final long[] longer = new long[MOST_MAKES];

        static int priceOf(long road) {
            return (int) (road >> ROW_BITS + LENGTH_BITS);
        }

        static int lengthOf(long road) {
            return (int) (road >> ROW_BITS) & LENGTH_MASK;
        }

        static int stepOf(long road, int i) {
            int length = lengthOf(road);
            if (i < 0 || i >= length) {
                return NONE;
            }
            int row = (int) road & ROW_MASK;
            return row >> STEP_BITS * (length - 1 - i) & STEP_MASK;
        }

        private static long extended(long road, int t, int price) {
            long row = (road & ROW_MASK) << STEP_BITS | t;
            long length = lengthOf(road) + 1;
            long sum = priceOf(road) + price;
            return (sum << LENGTH_BITS | length) << ROW_BITS | row;
        }

        long bestTo(int m) {
            return m >= 0 && m < MOST_MAKES ? best[m] : NO_ROAD;
        }

        void search(StoredFile file, Turners turners, Machines machines, int y) {
            Arrays.fill(best, NO_ROAD);
            Arrays.fill(reached, NO_ROAD);
            int start = file.makeNumber;
            if (start < 0 || start >= MOST_MAKES) {
                return;
            }
            best[start] = EMPTY_ROAD;
            reached[start] = EMPTY_ROAD;
            int needed = file.mustKeep & file.has;
            for (int length = 1; length <= MOST_STEPS; length++) {
                goOneStep(needed, turners, machines, y);
            }
        }

        /** From the best ROADS of one length to those of the next, as each begins with such a one. */
        private void goOneStep(int needed, Turners turners, Machines machines, int y) {
            Arrays.fill(longer, NO_ROAD);
            for (int t = 0; t < turners.size; t++) {
                Turner turner = turners.at(t);
                if (turner != null && reached[turner.from] != NO_ROAD && turner.carriesAll(needed)
                        && machines.liveSurely(turner.machine, y)) {
                    long road = extended(reached[turner.from], t, turner.price);
                    longer[turner.to] = Math.min(longer[turner.to], road);
                }
            }
            for (int m = 0; m < MOST_MAKES; m++) {
                reached[m] = longer[m];
                best[m] = Math.min(best[m], longer[m]);
            }
        }
    }

    /** For every MAKE the last year in which a FILE of it is READABLE. */
    private static final class Spans {
        private final int[] ends = new int[MOST_MAKES];
        private final int[] longer = new int[MOST_MAKES];

        void measure(Readers readers, Turners turners, Machines machines, boolean surely) {
            Arrays.fill(ends, NONE);
            for (int i = 0; i < readers.size; i++) {
                int opened = readers.opened[i];
                int end = machines.endOf(readers.hosts[i], surely);
                ends[opened] = Math.max(ends[opened], end);
            }
            for (int length = 1; length <= MOST_STEPS; length++) {
                goOneStepBack(turners, machines, surely);
            }
        }

        /** Reads one row and writes another: else one round could go more than one TURNER far. */
        private void goOneStepBack(Turners turners, Machines machines, boolean surely) {
            System.arraycopy(ends, 0, longer, 0, MOST_MAKES);
            for (int t = 0; t < turners.size; t++) {
                Turner turner = turners.at(t);
                if (turner != null) {
                    int end = Math.min(machines.endOf(turner.machine, surely), ends[turner.to]);
                    longer[turner.from] = Math.max(longer[turner.from], end);
                }
            }
            System.arraycopy(longer, 0, ends, 0, MOST_MAKES);
        }

        int lastYearOf(int make) {
            return make >= 0 && make < MOST_MAKES ? ends[make] : NONE;
        }
    }
}
