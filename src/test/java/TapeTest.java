/** Promises 1 to 4: a new object, feed, make, file. */
public final class TapeTest {
    private static final Check check = new Check("TapeTest");

    public static void main(String[] args) {
        newObjectIsEmpty();
        feedFillsTheTape();
        feedPutsHighestByteFirst();
        makeTakesTheMark();
        makeRefuses();
        makeRefusesTheThirteenth();
        fileTakesBytes();
        fileRefuses();
        fileRefusesTheFortyFirst();
        housesShareNothing();
        check.end();
    }

    private static void newObjectIsEmpty() {
        FileHouse house = new FileHouse();
        for (int what = 0; what <= 7; what++) {
            check.is("new count " + what, house.count(what), 0);
        }
        check.is("new know", house.know(0), -1);
        check.is("new step", house.step(0), -1);
        check.is("new plan", house.plan(0), 0);
        check.is("new look", house.look(0, 0), -1);
        check.is("NONE", FileHouse.NONE, -1);
    }

    private static void feedFillsTheTape() {
        FileHouse house = new FileHouse();
        for (int n = 20; n <= 80; n += 20) {
            check.is("feed to " + n, house.feed(1, 2, 3, 4, 5), n);
            check.is("tape of " + n, house.count(5), n);
        }
        check.is("feed beyond 80", house.feed(1, 2, 3, 4, 5), -1);
        check.is("tape stays 80", house.count(5), 80);
        check.is("file of the full tape", house.file(60), 0);
        check.is("tape is empty", house.count(5), 0);
        check.is("feed again", house.feed(0, 0, 0, 0, 0), 20);
    }

    private static void feedPutsHighestByteFirst() {
        FileHouse house = new FileHouse();
        house.feed(0x01020304, 0xfffefdfc, 0x80007f00, Integer.MIN_VALUE, -1);
        house.feed(0x15161718, 0, 0, 0, 0x25262728);
        int[] due = {1, 2, 3, 4, 255, 254, 253, 252, 128, 0, 127, 0, 128, 0, 0, 0, 255, 255, 255, 255,
            0x15, 0x16, 0x17, 0x18, 0, 0, 0, 0, 0, 0, 0, 0, 0, 0, 0, 0, 0x25, 0x26, 0x27, 0x28};
        check.is("file of 40", house.file(40), 0);
        for (int i = 0; i < due.length; i++) {
            check.is("byte " + i, house.look(0, 100 + i), due[i]);
        }
    }

    private static void makeTakesTheMark() {
        FileHouse house = new FileHouse();
        house.feed(0x01020304, 0, 0, 0, 0);
        check.is("make of 4", house.make(4, 0, false, 0), 0);
        check.is("tape is empty", house.count(5), 0);
        house.feed(0x01020304, 0, 0, 0, 0);
        check.is("make of 1", house.make(1, 4095, true, 3), 1);
        check.is("two makes", house.count(0), 2);
        Houses.file(house, 1, 2, 3, 4);
        Houses.file(house, 1, 2, 3);
        Houses.file(house, 1, 2, 3, 5);
        Houses.file(house, 2);
        check.is("whole mark", house.bends(0, 0), 0);
        check.is("a file shorter than the mark", house.bends(1, 0), -2);
        check.is("last byte of the mark", house.bends(2, 0), -2);
        check.is("a mark of one byte", house.bends(2, 1) >= 0, true);
        check.is("another first byte", house.bends(3, 1), -2);
    }

    private static void makeRefuses() {
        FileHouse house = new FileHouse();
        check.is("make of an empty tape", house.make(1, 0, false, 0), -1);
        house.feed(1, 2, 3, 4, 5);
        int[] lengths = {0, 5, -1, Integer.MIN_VALUE, Integer.MAX_VALUE};
        for (int n : lengths) {
            check.is("make of " + n, house.make(n, 0, false, 0), -1);
        }
        int[] sets = {-1, 4096, Integer.MIN_VALUE, Integer.MAX_VALUE};
        for (int set : sets) {
            check.is("make with properties " + set, house.make(1, set, false, 0), -1);
        }
        int[] bends = {-1, 4, Integer.MIN_VALUE, Integer.MAX_VALUE};
        for (int bend : bends) {
            check.is("make with bends " + bend, house.make(1, 0, false, bend), -1);
        }
        check.is("tape stays", house.count(5), 20);
        check.is("no makes", house.count(0), 0);
    }

    private static void makeRefusesTheThirteenth() {
        FileHouse house = Houses.withPlainMakes(12);
        check.is("twelve makes", house.count(0), 12);
        house.feed(1, 2, 3, 4, 5);
        check.is("thirteenth make", house.make(1, 0, false, 0), -1);
        check.is("tape stays with the thirteenth", house.count(5), 20);
        check.is("still twelve", house.count(0), 12);
        house.file(1);
        check.is("bends by a thirteenth", house.bends(0, 12), -1);
        check.is("a reader of it", house.reader(12, 0), false);
        check.is("a turner to it", house.turner(0, 12, 0, 0, 0), -1);
        check.is("a road to it", house.road(0, 12), -1);
    }

    private static void fileTakesBytes() {
        FileHouse house = new FileHouse();
        int[] bytes = new int[60];
        for (int i = 0; i < 60; i++) {
            bytes[i] = 255 - i;
        }
        check.is("file of 60", Houses.file(house, bytes), 0);
        check.is("tape is empty", house.count(5), 0);
        check.is("60 bytes", house.look(0, 0), 60);
        check.is("last byte", house.look(0, 159), 196);
        check.is("file of 1", Houses.file(house, 7), 1);
        check.is("its bytes", house.look(1, 0), 1);
        check.is("its only byte", house.look(1, 100), 7);
        check.is("two files", house.count(1), 2);
    }

    private static void fileRefuses() {
        FileHouse house = new FileHouse();
        check.is("file of an empty tape", house.file(1), -1);
        house.feed(1, 2, 3, 4, 5);
        int[] lengths = {0, -1, 21, 60, 61, Integer.MIN_VALUE, Integer.MAX_VALUE};
        for (int n : lengths) {
            check.is("file of " + n, house.file(n), -1);
            check.is("tape stays by " + n, house.count(5), 20);
        }
        house.feed(1, 2, 3, 4, 5);
        house.feed(1, 2, 3, 4, 5);
        house.feed(1, 2, 3, 4, 5);
        check.is("file of 61 of 80", house.file(61), -1);
        check.is("tape stays 80", house.count(5), 80);
        check.is("no files", house.count(1), 0);
        check.is("file of 20", house.file(20), 0);
    }

    private static void fileRefusesTheFortyFirst() {
        FileHouse house = new FileHouse();
        for (int f = 0; f < 40; f++) {
            check.is("file " + f, Houses.file(house, f), f);
        }
        house.feed(1, 2, 3, 4, 5);
        check.is("forty-first file", house.file(1), -1);
        check.is("tape stays with it", house.count(5), 20);
        check.is("forty files", house.count(1), 40);
        check.is("know of it", house.know(40), -1);
        check.is("look at it", house.look(40, 0), -1);
        check.is("a make can still be made", house.make(1, 0, false, 0), 0);
        check.is("the first file is of it", house.know(0), 0);
    }

    private static void housesShareNothing() {
        FileHouse one = Houses.withPlainMakes(2);
        FileHouse other = new FileHouse();
        check.is("other has no makes", other.count(0), 0);
        one.feed(1, 2, 3, 4, 5);
        check.is("other has no tape", other.count(5), 0);
    }
}
