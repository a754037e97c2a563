/** The boundary cases that promises 1 to 9 and 13 name: the calls that change the house. */
public final class TellEdgesTest {
    private static final Check check = new Check("TellEdgesTest");

    public static void main(String[] args) {
        newObject();
        feed();
        makeOfTheTape();
        makeNumbers();
        twelveMakes();
        fileOfTheTape();
        fortyFiles();
        must();
        machine();
        reader();
        twentyFourReaders();
        turner();
        twentyFourTurners();
        year();
        turn();
        turnInTheLastYear();
        turnToFortyFiles();
        check.end();
    }

    private static void newObject() {
        check.hold("Promise 1", "No MAKES, FILES, READERS, TURNERS.");
        FileHouse house = new FileHouse();
        String[] names = {"makes", "files", "readers", "turners"};
        for (int what = 0; what < names.length; what++) {
            check.is(names[what], house.count(what), 0);
        }
        check.is("bends of the first file", house.bends(0, 0), -1);
        check.is("make of the first file", house.know(0), -1);
        check.is("a reader of the first make", house.reader(0, 0), false);
        check.is("a turner between the first makes", house.turner(0, 1, 0, 0, 0), -1);
        check.is("a turn by the first turner", house.turn(0, 0), -1);
        check.is("a plan for no file", house.plan(0), 0);
        check.is("the tape", house.count(5), 0);
        check.is("the year", house.count(4), 0);
    }

    private static void feed() {
        check.hold("Promise 2", "how many it has; NONE if that would be more than 80");
        FileHouse house = new FileHouse();
        for (int n = 20; n <= 80; n += 20) {
            check.is("feed to " + n, house.feed(n, n, n, n, n), n);
            check.is("the tape", house.count(5), n);
        }
        for (int again = 0; again < 2; again++) {
            check.is("feed to 100", house.feed(-1, -1, -1, -1, -1), -1);
            check.is("the tape stays", house.count(5), 80);
        }
        house.file(60);
        for (int i = 0; i < 60; i++) {
            check.is("byte " + i + " of what was fed", house.look(0, 100 + i), i % 4 == 3 ? 20 + i / 20 * 20 : 0);
        }
        check.is("feed to the empty tape", house.feed(0, 0, 0, 0, 0), 20);
        check.hold("Promise 2", "Twenty BYTES come behind the tape, the highest of each int first");
        house.file(1);
        house.feed(0x01020304, 0xff80_7f00, Integer.MIN_VALUE, Integer.MAX_VALUE, -1);
        house.file(20);
        int[] due = {1, 2, 3, 4, 255, 128, 127, 0, 128, 0, 0, 0, 127, 255, 255, 255, 255, 255, 255, 255};
        for (int i = 0; i < due.length; i++) {
            check.is("byte " + i, house.look(2, 100 + i), due[i]);
        }
    }

    /** A tape of 1, 2, 3, 4, .. */
    private static void feedRising(FileHouse house) {
        house.feed(0x01020304, 0x05060708, 0x090a0b0c, 0x0d0e0f10, 0x11121314);
    }

    private static void makeOfTheTape() {
        check.hold("Promise 3", "A MAKE whose MARK is the first n BYTES of the tape (empty then): its number");
        FileHouse house = new FileHouse();
        for (int n = 1; n <= 4; n++) {
            for (int fed = 1; fed <= n; fed++) {
                feedRising(house);
            }
            check.is("make of " + n, house.make(n, 4095, false, 0), n - 1);
            check.is("the tape is empty", house.count(5), 0);
        }
        for (int n = 1; n <= 4; n++) {
            feedRising(house);
            int f = house.file(n);
            for (int m = 0; m < 4; m++) {
                check.is("a file of " + n + " begins with a mark of " + (m + 1), house.bends(f, m) >= 0, n > m);
            }
        }
        check.hold("Promise 3", "it has not so many (the tape stays by all these)");
        check.is("make of the empty tape", house.make(1, 0, false, 0), -1);
        check.is("it stays empty", house.count(5), 0);
    }

    private static void makeNumbers() {
        check.hold("Promise 3", "NONE: n not 1 to 4, no such PROPERTIES (0 to 4095), BENDS");
        FileHouse house = new FileHouse();
        feedRising(house);
        int[] noLength = {Integer.MIN_VALUE, -1, 0, 5, 20, 21, Integer.MAX_VALUE};
        for (int n : noLength) {
            check.is("n " + n, house.make(n, 0, false, 0), -1);
        }
        int[] noSet = {Integer.MIN_VALUE, -1, 4096, Integer.MAX_VALUE};
        for (int set : noSet) {
            check.is("properties " + set, house.make(1, set, false, 0), -1);
        }
        int[] noBends = {Integer.MIN_VALUE, -1, 4, Integer.MAX_VALUE};
        for (int bends : noBends) {
            check.is("bends " + bends, house.make(1, 0, false, bends), -1);
        }
        check.is("no make", house.count(0), 0);
        check.is("the tape stays", house.count(5), 20);
        check.is("n 4, with what was on the tape", house.make(4, 4095, true, 3), 0);
        feedRising(house);
        check.is("properties 0, bends 0", house.make(1, 0, false, 0), 1);
        feedRising(house);
        house.file(4);
        check.is("the mark of 4", house.bends(0, 0), 1);
        check.is("the mark of 1", house.bends(0, 1), 1);
    }

    private static void twelveMakes() {
        check.hold("Promise 3", "12 are there");
        FileHouse house = new FileHouse();
        for (int m = 0; m < 12; m++) {
            check.is("make " + m, Houses.make(house, 0, false, 0, 10 + m), m);
        }
        feedRising(house);
        check.is("the thirteenth", house.make(1, 0, false, 0), -1);
        check.is("the tape stays", house.count(5), 20);
        check.is("there are twelve", house.count(0), 12);
        check.is("a file of what is on the tape", house.file(2), 0);
        check.is("its first byte", house.look(0, 100), 1);
        check.is("it is of none of them", house.know(0), -1);
    }

    private static void fileOfTheTape() {
        check.hold("Promise 4", "NONE: n not 1 to 60");
        FileHouse house = new FileHouse();
        int[] taken = {1, 2, 59, 60};
        for (int n : taken) {
            for (int fed = 0; fed < 4; fed++) {
                feedRising(house);
            }
            int[] refused = {Integer.MIN_VALUE, -1, 0, 61, 80, 81, Integer.MAX_VALUE};
            for (int wrong : refused) {
                check.is("n " + wrong, house.file(wrong), -1);
                check.is("the tape stays", house.count(5), 80);
            }
            int f = house.count(1);
            check.is("n " + n, house.file(n), f);
            check.is("the tape is empty", house.count(5), 0);
            check.is("so many bytes", house.look(f, 0), n);
            check.is("its last byte", house.look(f, 100 + n - 1), (n - 1) % 20 + 1);
            check.is("no byte behind it", house.look(f, 100 + n), -1);
        }
        check.hold("Promise 4", "it has not so many (the tape stays)");
        for (int fed = 0; fed <= 40; fed += 20) {
            for (int i = 0; i < fed; i += 20) {
                feedRising(house);
            }
            check.is("one more than " + fed, house.file(fed + 1), -1);
            check.is("the tape stays", house.count(5), fed);
            check.is("all of " + fed, house.file(fed) >= 0, fed > 0);
        }
    }

    private static void fortyFiles() {
        check.hold("Promise 4", "40 are there");
        FileHouse house = new FileHouse();
        for (int f = 0; f < 40; f++) {
            check.is("file " + f, Houses.file(house, f), f);
        }
        feedRising(house);
        check.is("the forty-first", house.file(1), -1);
        check.is("the tape stays", house.count(5), 20);
        check.is("there are forty", house.count(1), 40);
        check.is("the last one stays", house.look(39, 100), 39);
        check.is("no more than that", house.look(40, 100), -1);
        check.is("a make of what is on the tape", house.make(1, 0, false, 0), 0);
        check.is("the file that begins so", house.know(1), 0);
    }

    private static void must() {
        check.hold("Promise 5", "MUST of FILE f: true; false: no such one, PROPERTIES");
        FileHouse house = new FileHouse();
        check.is("of no file at all", house.must(0, 0), false);
        for (int f = 0; f < 40; f++) {
            Houses.file(house, f);
        }
        int[] noSet = {Integer.MIN_VALUE, -1, 4096, Integer.MAX_VALUE};
        int[] files = {0, 39};
        for (int f : files) {
            check.is("none at first", house.look(f, 3), 0);
            check.is("4095", house.must(f, 4095), true);
            for (int set : noSet) {
                check.is("properties " + set, house.must(f, set), false);
            }
            check.is("4095 stays", house.look(f, 3), 4095);
            check.is("0", house.must(f, 0), true);
            check.is("none again", house.look(f, 3), 0);
            check.is("2048", house.must(f, 2048), true);
            check.is("the last one alone", house.look(f, 3), 2048);
        }
        int[] noFile = {Integer.MIN_VALUE, -1, 40, Integer.MAX_VALUE};
        for (int f : noFile) {
            check.is("file " + f, house.must(f, 1), false);
        }
        check.is("another file's stays", house.look(1, 3), 0);
    }

    private static void machine() {
        check.hold("Promise 6", "MACHINE m lives SURELY and MAYBE to these years: true; false: no such ones");
        FileHouse house = Houses.withPlainMakes(2);
        Houses.file(house, 10);
        Houses.file(house, 11);
        house.reader(0, 0);
        house.reader(1, 7);
        int[][] taken = {{0, 0}, {0, 999}, {999, 999}, {998, 999}, {0, 1}, {500, 500}};
        int[][] refused = {{-1, 0}, {-1, -1}, {0, -1}, {1000, 1000}, {999, 1000}, {1, 0}, {999, 998}, {999, 0},
            {Integer.MIN_VALUE, Integer.MAX_VALUE}, {0, Integer.MAX_VALUE}, {Integer.MIN_VALUE, 5}};
        for (int f = 0; f < 2; f++) {
            for (int[] years : taken) {
                check.is("to " + years[0] + " and " + years[1], house.machine(7 * f, years[0], years[1]), true);
                for (int[] none : refused) {
                    check.is("to " + none[0] + " and " + none[1], house.machine(7 * f, none[0], none[1]), false);
                }
                check.is("surely", house.last(f, true), years[0]);
                check.is("maybe", house.last(f, false), years[1]);
            }
        }
        int[] noMachine = {Integer.MIN_VALUE, -1, 8, Integer.MAX_VALUE};
        for (int m : noMachine) {
            check.is("machine " + m, house.machine(m, 1, 1), false);
        }
        house.year(600);
        check.is("years that are over", house.machine(0, 3, 4), true);
        check.is("they hold", house.last(0, true), 3);
    }

    private static void reader() {
        check.hold("Promise 7", "A READER of a MAKE on a MACHINE: true; false: no such ones, it was told");
        FileHouse house = Houses.withPlainMakes(12);
        int[] none = {Integer.MIN_VALUE, -1, 12, Integer.MAX_VALUE};
        int[] noMachine = {Integer.MIN_VALUE, -1, 8, Integer.MAX_VALUE};
        for (int m : none) {
            check.is("make " + m, house.reader(m, 0), false);
        }
        for (int m : noMachine) {
            check.is("machine " + m, house.reader(0, m), false);
        }
        check.is("no reader", house.count(2), 0);
        int[][] taken = {{0, 0}, {11, 0}, {0, 7}, {11, 7}};
        for (int i = 0; i < taken.length; i++) {
            check.is("reader " + i, house.reader(taken[i][0], taken[i][1]), true);
            check.is("it was told", house.reader(taken[i][0], taken[i][1]), false);
            check.is("readers", house.count(2), i + 1);
        }
        check.is("the first was told", house.reader(0, 0), false);
        check.is("a make that is not there yet", new FileHouse().reader(0, 0), false);
    }

    private static void twentyFourReaders() {
        check.hold("Promise 7", "24 are there");
        FileHouse house = Houses.withPlainMakes(4);
        Houses.file(house, 13);
        for (int i = 0; i < 24; i++) {
            check.is("reader " + i, house.reader(i / 8, i % 8), true);
            check.is("readers", house.count(2), i + 1);
        }
        check.is("the twenty-fifth", house.reader(3, 0), false);
        check.is("one that was told", house.reader(2, 7), false);
        check.is("there are 24", house.count(2), 24);
        check.is("it opens nothing", house.last(0, false), -1);
    }

    private static void turner() {
        check.hold("Promise 8", "NONE: no such MAKES (two unlike), PROPERTIES, PRICE, MACHINE");
        FileHouse house = Houses.withPlainMakes(12);
        int[] noMake = {Integer.MIN_VALUE, -1, 12, Integer.MAX_VALUE};
        for (int m : noMake) {
            check.is("from " + m, house.turner(m, 1, 0, 0, 0), -1);
            check.is("to " + m, house.turner(0, m, 0, 0, 0), -1);
            check.is("both " + m, house.turner(m, m, 0, 0, 0), -1);
        }
        for (int m = 0; m < 12; m++) {
            check.is("from and to " + m, house.turner(m, m, 0, 0, 0), -1);
        }
        int[] noSet = {Integer.MIN_VALUE, -1, 4096, Integer.MAX_VALUE};
        for (int set : noSet) {
            check.is("drops " + set, house.turner(0, 1, set, 0, 0), -1);
        }
        int[] noPrice = {Integer.MIN_VALUE, -1, 10000, Integer.MAX_VALUE};
        for (int price : noPrice) {
            check.is("price " + price, house.turner(0, 1, 0, price, 0), -1);
        }
        int[] noMachine = {Integer.MIN_VALUE, -1, 8, Integer.MAX_VALUE};
        for (int m : noMachine) {
            check.is("machine " + m, house.turner(0, 1, 0, 0, m), -1);
        }
        check.is("no turner", house.count(3), 0);
        check.is("the least of all", house.turner(0, 11, 0, 0, 0), 0);
        check.is("the most of all", house.turner(11, 0, 4095, 9999, 7), 1);
        check.is("one like it", house.turner(11, 0, 4095, 9999, 7), 2);
        Houses.file(house, 10);
        Houses.file(house, 21, 11, 0);
        check.is("the least price", house.road(0, 11), 0);
        check.is("the most", house.road(1, 0), 9999);
        house.turn(1, 1);
        check.is("all is dropped", house.look(2, 0), 1);
    }

    private static void twentyFourTurners() {
        check.hold("Promise 8", "24 are there");
        FileHouse house = Houses.withPlainMakes(3);
        Houses.file(house, 10);
        for (int t = 0; t < 24; t++) {
            check.is("turner " + t, house.turner(0, 1, 0, 100 - t, 0), t);
        }
        check.is("the twenty-fifth", house.turner(0, 2, 0, 0, 0), -1);
        check.is("there are 24", house.count(3), 24);
        check.is("it leads nowhere", house.road(0, 2), -1);
        check.is("the last one leads on", house.road(0, 1), 77);
        check.is("it is number 23", house.step(0), 23);
    }

    private static void year() {
        check.hold("Promise 9", "It is YEAR y: true; false: it is none, or ahead of the YEAR that is");
        FileHouse house = new FileHouse();
        int[] taken = {0, 0, 1, 500, 500, 998, 999, 999};
        for (int y : taken) {
            check.is("year " + y, house.year(y), true);
            int[] refused = {Integer.MIN_VALUE, -1, y - 1, 1000, Integer.MAX_VALUE};
            for (int none : refused) {
                check.is("year " + none + " in " + y, house.year(none), false);
                check.is("it stays", house.count(4), y);
            }
        }
        check.is("year 0 at the end", house.year(0), false);
    }

    private static void turn() {
        check.hold("Promise 13", "NONE: no such ones, the FILE is of another MAKE or of none");
        FileHouse house = Houses.withPlainMakes(2);
        Houses.file(house, 10);
        Houses.file(house, 11);
        Houses.file(house, 9);
        check.is("no turner yet", house.turn(0, 0), -1);
        for (int t = 0; t < 24; t++) {
            house.turner(0, 1, 0, 0, 0);
        }
        int[] noFile = {Integer.MIN_VALUE, -1, 3, 40, Integer.MAX_VALUE};
        for (int f : noFile) {
            check.is("file " + f, house.turn(f, 0), -1);
        }
        int[] noTurner = {Integer.MIN_VALUE, -1, 24, Integer.MAX_VALUE};
        for (int t : noTurner) {
            check.is("turner " + t, house.turn(0, t), -1);
        }
        check.is("of another make", house.turn(1, 0), -1);
        check.is("of none", house.turn(2, 0), -1);
        check.is("three files", house.count(1), 3);
        check.is("the first turner", house.turn(0, 0), 3);
        check.is("the last turner", house.turn(0, 23), 4);
        check.is("a file that was made so", house.turn(4, 0), -1);
    }

    private static void turnInTheLastYear() {
        check.hold("Promise 13", "the TURNER's MACHINE does not live SURELY in this YEAR");
        FileHouse house = Houses.withPlainMakes(2);
        Houses.file(house, 10);
        house.turner(0, 1, 0, 0, 7);
        house.machine(7, 0, 999);
        check.is("in its last year", house.turn(0, 0), 1);
        house.year(1);
        check.is("a year behind it, though it lives maybe", house.turn(0, 0), -1);
        check.is("no file came", house.count(1), 2);
        house.machine(7, 999, 999);
        house.year(999);
        check.is("in the last year of all", house.turn(0, 0), 2);
    }

    private static void turnToFortyFiles() {
        check.hold("Promise 13", "more than 60 BYTES, 40 FILES are there");
        FileHouse house = new FileHouse();
        Houses.make(house, 1, false, 0, 1);
        Houses.make(house, 1, false, 0, 2, 2);
        house.turner(0, 1, 0, 0, 0);
        int[] bytes = new int[60];
        bytes[0] = 1;
        bytes[2] = 57;
        Houses.file(house, bytes);
        check.is("61 bytes", house.turn(0, 0), -1);
        Houses.file(house, 1, 0, 0);
        check.is("no file came", house.count(1), 2);
        for (int f = 2; f < 40; f++) {
            check.is("file " + f, house.turn(1, 0), f);
        }
        check.is("the forty-first", house.turn(1, 0), -1);
        check.is("there are forty", house.count(1), 40);
        check.is("the last one is from it", house.look(39, 4), 1);
    }
}
