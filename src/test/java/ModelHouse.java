import java.util.ArrayList;
import java.util.List;

/**
 * The document told once more, as slowly and literally as can be: nothing is remembered that can be
 * worked out, and every ROAD is walked. ModelTest holds FileHouse against it.
 */
final class ModelHouse {
    private record MakeOf(List<Integer> mark, int properties, boolean sum, int bears) {
    }

    private record RecordOf(int tag, int place, List<Integer> bytes) {
    }

    private record TurnerOf(int from, int to, int drops, int price, int machine) {
    }

    private record ReaderOf(int make, int machine) {
    }

    private record Read(int bends, List<RecordOf> records) {
    }

    private static final class FileOf {
        List<Integer> bytes;
        int must = 0;
        int from = -1;
    }

    private final List<Integer> tape = new ArrayList<>();
    private final List<MakeOf> makes = new ArrayList<>();
    private final List<FileOf> files = new ArrayList<>();
    private final List<ReaderOf> readers = new ArrayList<>();
    private final List<TurnerOf> turners = new ArrayList<>();
    private final int[] surely = {999, 999, 999, 999, 999, 999, 999, 999};
    private final int[] maybe = surely.clone();
    private int year = 0;
    private List<Integer> told = List.of();

    int feed(int... words) {
        if (tape.size() + 20 > 80) {
            return -1;
        }
        for (int word : words) {
            tape.add(word >>> 24);
            tape.add(word >>> 16 & 255);
            tape.add(word >>> 8 & 255);
            tape.add(word & 255);
        }
        return tape.size();
    }

    private List<Integer> takeTape(int n) {
        List<Integer> taken = new ArrayList<>(tape.subList(0, n));
        tape.clear();
        return taken;
    }

    private static boolean in(int value, int low, int high) {
        return low <= value && value <= high;
    }

    int make(int n, int properties, boolean sum, int bends) {
        if (!in(n, 1, 4) || !in(properties, 0, 4095) || !in(bends, 0, 3) || makes.size() == 12 || n > tape.size()) {
            return -1;
        }
        makes.add(new MakeOf(takeTape(n), properties, sum, bends));
        return makes.size() - 1;
    }

    int file(int n) {
        if (!in(n, 1, 60) || files.size() == 40 || n > tape.size()) {
            return -1;
        }
        FileOf file = new FileOf();
        file.bytes = takeTape(n);
        files.add(file);
        return files.size() - 1;
    }

    private boolean noFile(int f) {
        return !in(f, 0, files.size() - 1);
    }

    private boolean noMake(int m) {
        return !in(m, 0, makes.size() - 1);
    }

    boolean must(int f, int set) {
        if (noFile(f) || !in(set, 0, 4095)) {
            return false;
        }
        files.get(f).must = set;
        return true;
    }

    boolean machine(int m, int sure, int doubtful) {
        if (!in(m, 0, 7) || !in(sure, 0, 999) || !in(doubtful, 0, 999) || doubtful < sure) {
            return false;
        }
        surely[m] = sure;
        maybe[m] = doubtful;
        return true;
    }

    boolean reader(int make, int machine) {
        ReaderOf reader = new ReaderOf(make, machine);
        if (noMake(make) || !in(machine, 0, 7) || readers.contains(reader) || readers.size() == 24) {
            return false;
        }
        return readers.add(reader);
    }

    int turner(int from, int to, int drops, int price, int machine) {
        if (noMake(from) || noMake(to) || from == to || !in(drops, 0, 4095) || !in(price, 0, 9999)
                || !in(machine, 0, 7) || turners.size() == 24) {
            return -1;
        }
        turners.add(new TurnerOf(from, to, drops, price, machine));
        return turners.size() - 1;
    }

    boolean year(int y) {
        if (!in(y, 0, 999) || y < year) {
            return false;
        }
        year = y;
        return true;
    }

    private static int sumOf(List<Integer> bytes) {
        return bytes.stream().mapToInt(Integer::intValue).sum() % 256;
    }

    private static boolean has(int set, int tag) {
        return tag < 12 && (set & 1 << tag) != 0;
    }

    private Read read(List<Integer> bytes, MakeOf make) {
        int n = make.mark.size();
        if (bytes.size() < n || !bytes.subList(0, n).equals(make.mark)) {
            return new Read(-2, List.of());
        }
        int bends = 0;
        List<Integer> rest = bytes.subList(n, bytes.size());
        if (make.sum) {
            if (rest.isEmpty()) {
                bends++;
            } else {
                int last = bytes.size() - 1;
                if (bytes.get(last) != sumOf(bytes.subList(0, last))) {
                    bends++;
                }
                rest = rest.subList(0, rest.size() - 1);
            }
        }
        List<RecordOf> records = new ArrayList<>();
        int place = n;
        while (!rest.isEmpty()) {
            int tag = rest.get(0);
            boolean broken = rest.size() < 2 || rest.get(1) > rest.size() - 2;
            boolean strange = !has(make.properties, tag);
            if (broken || strange) {
                bends++;
            }
            if (broken) {
                break;
            }
            int length = rest.get(1);
            if (!strange) {
                records.add(new RecordOf(tag, place + 2, rest.subList(2, 2 + length)));
            }
            rest = rest.subList(2 + length, rest.size());
            place += 2 + length;
        }
        return new Read(bends, records);
    }

    int bends(int f, int m) {
        return noFile(f) || noMake(m) ? -1 : read(files.get(f).bytes, makes.get(m)).bends;
    }

    int know(int f) {
        for (int bends = 0; bends <= 3; bends++) {
            for (int m = 0; m < makes.size(); m++) {
                if (bends(f, m) == bends && bends <= makes.get(m).bears && !noFile(f)) {
                    return m;
                }
            }
        }
        return -1;
    }

    private List<RecordOf> records(int f) {
        int m = know(f);
        return m == -1 ? List.of() : read(files.get(f).bytes, makes.get(m)).records;
    }

    private int properties(int f) {
        int set = 0;
        for (RecordOf record : records(f)) {
            set |= 1 << record.tag;
        }
        return set;
    }

    int record(int f, int i, int what) {
        List<RecordOf> records = records(f);
        if (!in(i, 0, records.size() - 1) || !in(what, 0, 2)) {
            return -1;
        }
        RecordOf record = records.get(i);
        return what == 0 ? record.tag : what == 1 ? record.bytes.size() : record.place;
    }

    int turn(int f, int t) {
        if (noFile(f) || !in(t, 0, turners.size() - 1)) {
            return -1;
        }
        TurnerOf turner = turners.get(t);
        if (know(f) != turner.from || surely[turner.machine] < year || files.size() == 40) {
            return -1;
        }
        MakeOf to = makes.get(turner.to);
        List<Integer> bytes = new ArrayList<>(to.mark);
        for (RecordOf record : records(f)) {
            if (has(to.properties, record.tag) && !has(turner.drops, record.tag)) {
                bytes.add(record.tag);
                bytes.add(record.bytes.size());
                bytes.addAll(record.bytes);
            }
        }
        if (to.sum) {
            bytes.add(sumOf(bytes));
        }
        if (bytes.size() > 60) {
            return -1;
        }
        FileOf file = new FileOf();
        file.bytes = bytes;
        file.from = f;
        files.add(file);
        return files.size() - 1;
    }

    private List<List<Integer>> recordsWith(int f, int tag) {
        List<List<Integer>> found = new ArrayList<>();
        for (RecordOf record : records(f)) {
            if (record.tag == tag) {
                found.add(record.bytes);
            }
        }
        return found;
    }

    int kept(int f, int g) {
        if (noFile(f) || noFile(g)) {
            return -1;
        }
        int set = 0;
        for (int p = 0; p < 12; p++) {
            if (has(properties(f), p) && recordsWith(f, p).equals(recordsWith(g, p))) {
                set |= 1 << p;
            }
        }
        return set;
    }

    /** All ROADS out of a MAKE whose TURNERS live (by these ends) in year y. */
    private List<List<Integer>> roadsFrom(int make, int[] ends, int y) {
        List<List<Integer>> roads = new ArrayList<>();
        roads.add(List.of());
        for (int done = 0; done < roads.size(); done++) {
            List<Integer> road = roads.get(done);
            for (int t = 0; t < turners.size() && road.size() < 4; t++) {
                TurnerOf turner = turners.get(t);
                if (turner.from == endOf(make, road) && ends[turner.machine] >= y) {
                    List<Integer> longer = new ArrayList<>(road);
                    longer.add(t);
                    roads.add(longer);
                }
            }
        }
        return roads;
    }

    private int endOf(int make, List<Integer> road) {
        return road.isEmpty() ? make : turners.get(road.get(road.size() - 1)).to;
    }

    private int priceOf(List<Integer> road) {
        return road.stream().mapToInt(t -> turners.get(t).price).sum();
    }

    private int keepsOf(int f, List<Integer> road) {
        int set = properties(f);
        for (int t : road) {
            set &= makes.get(turners.get(t).to).properties & ~turners.get(t).drops;
        }
        return set;
    }

    private boolean better(List<Integer> one, List<Integer> other) {
        if (priceOf(one) != priceOf(other)) {
            return priceOf(one) < priceOf(other);
        }
        if (one.size() != other.size()) {
            return one.size() < other.size();
        }
        for (int i = 0; i < one.size(); i++) {
            if (!one.get(i).equals(other.get(i))) {
                return one.get(i) < other.get(i);
            }
        }
        return false;
    }

    private List<Integer> bestRoad(int f, List<Integer> goals) {
        int make = know(f);
        if (make == -1) {
            return null;
        }
        int needed = files.get(f).must & properties(f);
        List<Integer> best = null;
        for (List<Integer> road : roadsFrom(make, surely, year)) {
            if (goals.contains(endOf(make, road)) && (keepsOf(f, road) & needed) == needed
                    && (best == null || better(road, best))) {
                best = road;
            }
        }
        return best;
    }

    int road(int f, int m) {
        if (noFile(f) || noMake(m)) {
            return -1;
        }
        List<Integer> best = bestRoad(f, List.of(m));
        if (best == null) {
            return -1;
        }
        told = best;
        return priceOf(best);
    }

    int step(int i) {
        return in(i, 0, told.size() - 1) ? told.get(i) : -1;
    }

    private boolean readable(int f, int[] ends, int y) {
        int make = know(f);
        if (make == -1) {
            return false;
        }
        for (List<Integer> road : roadsFrom(make, ends, y)) {
            for (ReaderOf reader : readers) {
                if (reader.make == endOf(make, road) && ends[reader.machine] >= y) {
                    return true;
                }
            }
        }
        return false;
    }

    int last(int f, boolean sure) {
        if (noFile(f)) {
            return -1;
        }
        int[] ends = sure ? surely : maybe;
        int last = -1;
        // What lives changes behind the MACHINES' own years alone, so no other year can be the last.
        for (int end : ends) {
            if (end > last && readable(f, ends, end)) {
                last = end;
            }
        }
        return last;
    }

    private boolean planned(int f) {
        return know(f) != -1 && files.stream().noneMatch(file -> file.from == f);
    }

    private List<Integer> goals(int y) {
        List<Integer> goals = new ArrayList<>();
        for (ReaderOf reader : readers) {
            if (surely[reader.machine] >= y) {
                goals.add(reader.make);
            }
        }
        return goals;
    }

    int plan(int y) {
        if (!in(y, 0, 999) || y < year) {
            return -1;
        }
        int price = 0;
        for (int f = 0; f < files.size(); f++) {
            if (planned(f)) {
                List<Integer> road = bestRoad(f, goals(y));
                if (road == null) {
                    return -2;
                }
                price += priceOf(road);
            }
        }
        return price;
    }

    int goal(int y, int f) {
        if (!in(y, 0, 999) || y < year || noFile(f) || !planned(f)) {
            return -1;
        }
        List<Integer> road = bestRoad(f, goals(y));
        return road == null ? -1 : endOf(know(f), road);
    }

    int look(int f, int what) {
        if (noFile(f)) {
            return -1;
        }
        FileOf file = files.get(f);
        if (what >= 100) {
            return what - 100 < file.bytes.size() ? file.bytes.get(what - 100) : -1;
        }
        int first = f;
        while (files.get(first).from != -1) {
            first = files.get(first).from;
        }
        return switch (what) {
            case 0 -> file.bytes.size();
            case 1 -> records(f).size();
            case 2 -> properties(f);
            case 3 -> file.must;
            case 4 -> file.from;
            case 5 -> first;
            default -> -1;
        };
    }

    int count(int what) {
        int without = 0;
        int beyond = 0;
        for (int f = 0; f < files.size() && (what == 6 || what == 7); f++) {
            without += know(f) == -1 ? 1 : 0;
            beyond += what == 7 && !readable(f, surely, year) && !readable(f, maybe, year) ? 1 : 0;
        }
        return switch (what) {
            case 0 -> makes.size();
            case 1 -> files.size();
            case 2 -> readers.size();
            case 3 -> turners.size();
            case 4 -> year;
            case 5 -> tape.size();
            case 6 -> without;
            case 7 -> beyond;
            default -> -1;
        };
    }
}
