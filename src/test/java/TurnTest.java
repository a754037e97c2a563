/** Promises 8, 13, 14 and 20: turner, turn, kept, look. */
public final class TurnTest {
    private static final Check check = new Check("TurnTest");

    public static void main(String[] args) {
        turnersAreNumbered();
        turnerRefuses();
        turnCarriesWhatTheMakeHolds();
        turnDrops();
        turnPassesOverBends();
        turnWritesTheSum();
        turnRefuses();
        turnNeedsALivingMachine();
        turnKeepsToSixtyBytes();
        turnKeepsToFortyFiles();
        turnedFilesTellWhereTheyComeFrom();
        keptComparesRecordsInOrder();
        keptOfFilesWithoutMake();
        lookAnswersNoneForOthers();
        check.end();
    }

    private static void bytesAre(String what, FileHouse house, int f, int... due) {
        check.is(what + ": length", house.look(f, 0), due.length);
        for (int i = 0; i < due.length; i++) {
            check.is(what + ": byte " + i, house.look(f, 100 + i), due[i]);
        }
    }

    private static void turnersAreNumbered() {
        FileHouse house = Houses.withPlainMakes(2);
        for (int t = 0; t < 24; t++) {
            check.is("turner " + t, house.turner(t % 2, 1 - t % 2, t % 2 * 4095, t % 2 * 9999, t % 8), t);
        }
        check.is("twenty-fifth turner", house.turner(0, 1, 0, 0, 0), -1);
        check.is("24 turners", house.count(3), 24);
        Houses.file(house, 10);
        check.is("turn by the twenty-fifth", house.turn(0, 24), -1);
        check.is("turn by the last but one", house.turn(0, 22), 1);
    }

    private static void turnerRefuses() {
        FileHouse house = Houses.withPlainMakes(2);
        int[] noMake = {-1, 2, 12, Integer.MIN_VALUE, Integer.MAX_VALUE};
        for (int m : noMake) {
            check.is("turner from " + m, house.turner(m, 1, 0, 0, 0), -1);
            check.is("turner to " + m, house.turner(0, m, 0, 0, 0), -1);
        }
        check.is("turner to the same", house.turner(1, 1, 0, 0, 0), -1);
        int[] noSet = {-1, 4096, Integer.MIN_VALUE, Integer.MAX_VALUE};
        for (int set : noSet) {
            check.is("turner drops " + set, house.turner(0, 1, set, 0, 0), -1);
        }
        int[] noPrice = {-1, 10000, Integer.MIN_VALUE, Integer.MAX_VALUE};
        for (int price : noPrice) {
            check.is("turner at " + price, house.turner(0, 1, 0, price, 0), -1);
        }
        int[] noMachine = {-1, 8, Integer.MIN_VALUE, Integer.MAX_VALUE};
        for (int m : noMachine) {
            check.is("turner on " + m, house.turner(0, 1, 0, 0, m), -1);
        }
        check.is("no turners", house.count(3), 0);
    }

    private static void turnCarriesWhatTheMakeHolds() {
        FileHouse house = new FileHouse();
        Houses.make(house, 0b111, false, 0, 1);
        Houses.make(house, 0b101, false, 0, 2, 3);
        Houses.file(house, 1, 2, 1, 9, 1, 1, 8, 0, 0, 2, 2, 7, 7);
        house.turner(0, 1, 0, 0, 0);
        check.is("new file", house.turn(0, 0), 1);
        bytesAre("turned", house, 1, 2, 3, 2, 1, 9, 0, 0, 2, 2, 7, 7);
        bytesAre("the first bytes stay", house, 0, 1, 2, 1, 9, 1, 1, 8, 0, 0, 2, 2, 7, 7);
        check.is("make of the new file", house.know(1), 1);
        check.is("kept", house.kept(0, 1), 0b101);
        check.is("turn again", house.turn(0, 0), 2);
        check.is("three files", house.count(1), 3);
    }

    private static void turnDrops() {
        FileHouse house = Houses.withPlainMakes(2);
        Houses.file(house, 10, 0, 0, 11, 1, 4, 3, 0, 11, 0);
        house.turner(0, 1, 1 << 11, 0, 0);
        check.is("turn", house.turn(0, 0), 1);
        bytesAre("dropped", house, 1, 11, 0, 0, 3, 0);
        check.is("kept", house.kept(0, 1), 0b1001);
        house.turner(1, 0, 4095, 0, 0);
        check.is("turn back", house.turn(1, 1), 2);
        bytesAre("nothing but the mark", house, 2, 10);
    }

    private static void turnPassesOverBends() {
        FileHouse house = new FileHouse();
        Houses.make(house, 0b01, false, 3, 1);
        Houses.make(house, 0b11, false, 0, 2);
        Houses.file(house, 1, 1, 1, 5, 0, 1, 6, 0, 9, 9);
        house.turner(0, 1, 0, 0, 0);
        check.is("turn of a bent file", house.turn(0, 0), 1);
        bytesAre("bends are left behind", house, 1, 2, 0, 1, 6);
    }

    private static void turnWritesTheSum() {
        FileHouse house = new FileHouse();
        Houses.make(house, 1, false, 0, 1);
        Houses.make(house, 1, true, 0, 200, 100);
        Houses.make(house, 1, false, 0, 3);
        Houses.file(house, 1, 0, 2, 250, 3);
        house.turner(0, 1, 0, 0, 0);
        house.turner(1, 2, 0, 0, 0);
        check.is("turn", house.turn(0, 0), 1);
        bytesAre("with sum", house, 1, 200, 100, 0, 2, 250, 3, 555 & 255);
        check.is("without bends", house.bends(1, 1), 0);
        check.is("turn on", house.turn(1, 1), 2);
        bytesAre("without sum", house, 2, 3, 0, 2, 250, 3);
    }

    private static void turnRefuses() {
        FileHouse house = Houses.withPlainMakes(2);
        Houses.file(house, 10);
        Houses.file(house, 9);
        check.is("no turner yet", house.turn(0, 0), -1);
        house.turner(0, 1, 0, 0, 0);
        house.turner(1, 0, 0, 0, 0);
        int[] none = {-1, 2, 24, 40, Integer.MIN_VALUE, Integer.MAX_VALUE};
        for (int n : none) {
            check.is("turn of file " + n, house.turn(n, 0), -1);
            check.is("turn by turner " + n, house.turn(0, n), -1);
        }
        check.is("of another make", house.turn(0, 1), -1);
        check.is("of no make", house.turn(1, 0), -1);
        check.is("two files", house.count(1), 2);
    }

    private static void turnNeedsALivingMachine() {
        FileHouse house = Houses.withPlainMakes(2);
        Houses.file(house, 10);
        house.turner(0, 1, 0, 0, 5);
        house.machine(5, 7, 900);
        house.year(7);
        check.is("in its last year", house.turn(0, 0), 1);
        house.year(8);
        check.is("behind it, though it may live", house.turn(0, 0), -1);
        house.machine(5, 8, 8);
        check.is("it lives again", house.turn(0, 0), 2);
    }

    private static void turnKeepsToSixtyBytes() {
        FileHouse house = new FileHouse();
        Houses.make(house, 3, false, 0, 1);
        Houses.make(house, 3, false, 0, 2, 2, 2);
        Houses.make(house, 3, true, 0, 3, 3);
        house.turner(0, 1, 0, 0, 0);
        house.turner(0, 2, 0, 0, 0);
        house.turner(0, 1, 2, 0, 0);
        Houses.file(house, ofLength(58));
        Houses.file(house, ofLength(59));
        check.is("60 bytes", house.turn(0, 0), 2);
        check.is("their number", house.look(2, 0), 60);
        check.is("60 bytes with sum", house.turn(0, 1), 3);
        check.is("their number with sum", house.look(3, 0), 60);
        check.is("61 bytes", house.turn(1, 0), -1);
        check.is("61 bytes with sum", house.turn(1, 1), -1);
        check.is("nothing comes from it", house.goal(0, 1), -1);
        check.is("short by dropping", house.turn(1, 2), 4);
        check.is("its length", house.look(4, 0), 5);
    }

    /** A FILE of the mark 1, an empty RECORD 0 and one RECORD 1 that fills it. */
    private static int[] ofLength(int n) {
        int[] bytes = new int[n];
        bytes[0] = 1;
        bytes[3] = 1;
        bytes[4] = n - 5;
        return bytes;
    }

    private static void turnKeepsToFortyFiles() {
        FileHouse house = Houses.withPlainMakes(2);
        Houses.file(house, 10);
        house.turner(0, 1, 0, 0, 0);
        for (int f = 1; f < 40; f++) {
            check.is("turn " + f, house.turn(0, 0), f);
        }
        check.is("the forty-first", house.turn(0, 0), -1);
        check.is("forty", house.count(1), 40);
    }

    private static void turnedFilesTellWhereTheyComeFrom() {
        FileHouse house = Houses.withPlainMakes(3);
        Houses.file(house, 12);
        Houses.file(house, 10, 0, 0);
        house.turner(0, 1, 0, 0, 0);
        house.turner(1, 2, 0, 0, 0);
        house.must(1, 1);
        house.turn(1, 0);
        house.turn(2, 1);
        int[] from = {-1, -1, 1, 2};
        int[] first = {0, 1, 1, 1};
        for (int f = 0; f < from.length; f++) {
            check.is("from of " + f, house.look(f, 4), from[f]);
            check.is("first of " + f, house.look(f, 5), first[f]);
        }
        check.is("must of the first", house.look(1, 3), 1);
        check.is("must of a new file", house.look(2, 3), 0);
    }

    private static void keptComparesRecordsInOrder() {
        FileHouse house = Houses.withPlainMakes(2);
        int base = Houses.file(house, 10, 0, 1, 5, 1, 0, 0, 1, 6);
        int mixed = Houses.file(house, 11, 1, 0, 0, 1, 5, 0, 1, 6);
        int turned = Houses.file(house, 10, 0, 1, 6, 0, 1, 5, 1, 0);
        int fewer = Houses.file(house, 10, 0, 1, 5, 1, 0);
        int more = Houses.file(house, 10, 0, 1, 5, 0, 1, 6, 0, 0, 1, 0, 2, 0);
        int longer = Houses.file(house, 10, 0, 2, 5, 0, 1, 0, 0, 1, 6);
        int empty = Houses.file(house, 10);
        check.is("other order among properties", house.kept(base, mixed), 3);
        check.is("other order within one", house.kept(base, turned), 2);
        check.is("fewer records", house.kept(base, fewer), 2);
        check.is("fewer the other way", house.kept(fewer, base), 2);
        check.is("more records", house.kept(base, more), 2);
        check.is("more the other way: only what the first has", house.kept(more, base), 2);
        check.is("more with itself", house.kept(more, more), 7);
        check.is("a longer record", house.kept(base, longer), 2);
        check.is("nothing there", house.kept(base, empty), 0);
        check.is("nothing here", house.kept(empty, base), 0);
        check.is("nothing at all", house.kept(empty, empty), 0);
    }

    private static void keptOfFilesWithoutMake() {
        FileHouse house = Houses.withPlainMakes(1);
        Houses.file(house, 10, 0, 0);
        Houses.file(house, 9, 0, 0);
        check.is("without make here", house.kept(1, 0), 0);
        check.is("without make there", house.kept(0, 1), 0);
        check.is("without make itself", house.kept(1, 1), 0);
        check.is("with make itself", house.kept(0, 0), 1);
        int[] none = {-1, 2, 40, Integer.MIN_VALUE, Integer.MAX_VALUE};
        for (int f : none) {
            check.is("kept of " + f, house.kept(f, 0), -1);
            check.is("kept with " + f, house.kept(0, f), -1);
        }
    }

    private static void lookAnswersNoneForOthers() {
        FileHouse house = Houses.withPlainMakes(1);
        Houses.file(house, 10, 0, 1, 77);
        int[] others = {-1, 6, 7, 99, 104, 160, Integer.MIN_VALUE, Integer.MIN_VALUE + 99, Integer.MAX_VALUE};
        for (int what : others) {
            check.is("look " + what, house.look(0, what), -1);
        }
        int[] due = {4, 1, 1, 0, -1, 0};
        for (int what = 0; what < due.length; what++) {
            check.is("look " + what, house.look(0, what), due[what]);
        }
        check.is("byte 0", house.look(0, 100), 10);
        check.is("byte 3", house.look(0, 103), 77);
        int[] noFile = {-1, 1, Integer.MIN_VALUE, Integer.MAX_VALUE};
        for (int f : noFile) {
            check.is("look at " + f, house.look(f, 100), -1);
        }
    }
}
