/** Promises 5 to 7, 9, 17 and 21: must, machine, reader, year, last, count. */
public final class YearTest {
    private static final Check check = new Check("YearTest");

    public static void main(String[] args) {
        mustIsKept();
        machineTakesYears();
        machineRefuses();
        readersAreToldOnce();
        readersAreTwentyFourAtMost();
        yearGoesOn();
        lastIsOfTheBestChain();
        lastTakesAtMostFourTurners();
        lastCaresForNoMust();
        lastOfFilesWithoutMake();
        countAnswers();
        countOfUnreadableFiles();
        check.end();
    }

    private static void mustIsKept() {
        FileHouse house = Houses.withPlainMakes(1);
        Houses.file(house, 10);
        Houses.file(house, 9);
        check.is("must at first", house.look(0, 3), 0);
        check.is("must all", house.must(0, 4095), true);
        check.is("look at all", house.look(0, 3), 4095);
        check.is("must of a file without make", house.must(1, 5), true);
        check.is("look at it", house.look(1, 3), 5);
        int[] noSet = {-1, 4096, Integer.MIN_VALUE, Integer.MAX_VALUE};
        for (int set : noSet) {
            check.is("must " + set, house.must(0, set), false);
        }
        int[] noFile = {-1, 2, 40, Integer.MIN_VALUE, Integer.MAX_VALUE};
        for (int f : noFile) {
            check.is("must of file " + f, house.must(f, 0), false);
        }
        check.is("must stays", house.look(0, 3), 4095);
        check.is("must nothing", house.must(0, 0), true);
        check.is("look at nothing", house.look(0, 3), 0);
    }

    private static void machineTakesYears() {
        FileHouse house = Houses.withPlainMakes(1);
        Houses.file(house, 10);
        house.reader(0, 7);
        check.is("surely at first", house.last(0, true), 999);
        check.is("maybe at first", house.last(0, false), 999);
        check.is("machine 7", house.machine(7, 3, 8), true);
        check.is("surely", house.last(0, true), 3);
        check.is("maybe", house.last(0, false), 8);
        check.is("alike", house.machine(7, 0, 0), true);
        check.is("surely 0", house.last(0, true), 0);
        check.is("maybe 0", house.last(0, false), 0);
        check.is("all years", house.machine(7, 999, 999), true);
        check.is("surely 999", house.last(0, true), 999);
        check.is("machine 0", house.machine(0, 0, 999), true);
        check.is("another machine does not matter", house.last(0, true), 999);
    }

    private static void machineRefuses() {
        FileHouse house = Houses.withPlainMakes(1);
        Houses.file(house, 10);
        house.reader(0, 0);
        house.machine(0, 5, 6);
        int[] noMachine = {-1, 8, Integer.MIN_VALUE, Integer.MAX_VALUE};
        for (int m : noMachine) {
            check.is("machine " + m, house.machine(m, 1, 1), false);
        }
        int[] noYear = {-1, 1000, Integer.MIN_VALUE, Integer.MAX_VALUE};
        for (int y : noYear) {
            check.is("surely to " + y, house.machine(0, y, 999), false);
            check.is("maybe to " + y, house.machine(0, 0, y), false);
        }
        check.is("maybe ahead of surely", house.machine(0, 8, 7), false);
        check.is("surely stays", house.last(0, true), 5);
        check.is("maybe stays", house.last(0, false), 6);
    }

    private static void readersAreToldOnce() {
        FileHouse house = Houses.withPlainMakes(2);
        check.is("reader", house.reader(0, 0), true);
        check.is("told already", house.reader(0, 0), false);
        check.is("another machine", house.reader(0, 7), true);
        check.is("another make", house.reader(1, 0), true);
        check.is("that one was told", house.reader(0, 7), false);
        int[] none = {-1, 2, 12, Integer.MIN_VALUE, Integer.MAX_VALUE};
        for (int m : none) {
            check.is("reader of make " + m, house.reader(m, 0), false);
        }
        int[] noMachine = {-1, 8, Integer.MIN_VALUE, Integer.MAX_VALUE};
        for (int m : noMachine) {
            check.is("reader on machine " + m, house.reader(0, m), false);
        }
        check.is("three readers", house.count(2), 3);
    }

    private static void readersAreTwentyFourAtMost() {
        FileHouse house = Houses.withPlainMakes(4);
        for (int i = 0; i < 24; i++) {
            check.is("reader " + i, house.reader(i / 8, i % 8), true);
        }
        check.is("twenty-fifth reader", house.reader(3, 0), false);
        check.is("24 readers", house.count(2), 24);
        Houses.file(house, 13);
        check.is("it was not taken", house.last(0, false), -1);
    }

    private static void yearGoesOn() {
        FileHouse house = new FileHouse();
        check.is("year 0 again", house.year(0), true);
        check.is("year 5", house.year(5), true);
        check.is("year 5 again", house.year(5), true);
        check.is("year 4", house.year(4), false);
        check.is("no year", house.year(-1), false);
        check.is("no year so late", house.year(1000), false);
        check.is("nor the latest", house.year(Integer.MAX_VALUE), false);
        check.is("nor the earliest", house.year(Integer.MIN_VALUE), false);
        check.is("it stays", house.count(4), 5);
        check.is("year 999", house.year(999), true);
        check.is("it is 999", house.count(4), 999);
    }

    private static void lastIsOfTheBestChain() {
        FileHouse house = Houses.withPlainMakes(4);
        Houses.file(house, 10);
        check.is("no reader", house.last(0, true), -1);
        house.reader(3, 0);
        check.is("no road", house.last(0, true), -1);
        house.machine(0, 500, 600);
        house.machine(1, 100, 700);
        house.machine(2, 200, 550);
        house.machine(3, 300, 400);
        house.turner(0, 3, 0, 0, 1);
        check.is("surely by machine 1", house.last(0, true), 100);
        check.is("maybe by machine 0", house.last(0, false), 600);
        house.turner(0, 1, 0, 0, 2);
        house.turner(1, 3, 0, 0, 3);
        check.is("surely by 2 and 3", house.last(0, true), 200);
        check.is("maybe by 1", house.last(0, false), 600);
        house.reader(1, 4);
        check.is("surely by 2 alone", house.last(0, true), 200);
        house.reader(0, 3);
        check.is("surely as it is", house.last(0, true), 300);
        house.year(900);
        check.is("a year that is over", house.last(0, true), 300);
        house.turner(3, 0, 0, 0, 0);
        Houses.file(house, 13);
        check.is("the reader's machine itself", house.last(1, true), 500);
    }

    private static void lastTakesAtMostFourTurners() {
        FileHouse house = Houses.withPlainMakes(6);
        for (int m = 4; m >= 0; m--) {
            house.turner(m, m + 1, 0, 0, 0);
        }
        house.reader(5, 0);
        Houses.file(house, 10);
        Houses.file(house, 11);
        check.is("five turners", house.last(0, true), -1);
        check.is("four turners", house.last(1, true), 999);
        check.is("unreadable", house.count(7), 1);
    }

    private static void lastCaresForNoMust() {
        FileHouse house = Houses.withPlainMakes(2);
        Houses.file(house, 10, 0, 0);
        house.must(0, 1);
        house.turner(0, 1, 1, 0, 0);
        house.reader(1, 0);
        check.is("no road that keeps", house.road(0, 1), -1);
        check.is("readable all the same", house.last(0, true), 999);
        check.is("and counted so", house.count(7), 0);
    }

    private static void lastOfFilesWithoutMake() {
        FileHouse house = Houses.withPlainMakes(1);
        house.reader(0, 0);
        Houses.file(house, 9);
        int[] none = {-1, 0, 1, 40, Integer.MIN_VALUE, Integer.MAX_VALUE};
        for (int f : none) {
            check.is("last of " + f, house.last(f, true), -1);
            check.is("last of " + f + " maybe", house.last(f, false), -1);
        }
    }

    private static void countAnswers() {
        FileHouse house = Houses.withPlainMakes(3);
        Houses.file(house, 9);
        Houses.file(house, 10);
        house.reader(0, 0);
        house.turner(0, 1, 0, 0, 0);
        house.turner(1, 0, 0, 0, 0);
        house.year(77);
        house.feed(0x09000000, 0, 0, 0, 0);
        int[] due = {3, 2, 1, 2, 77, 20, 1, 1};
        for (int what = 0; what < due.length; what++) {
            check.is("count " + what, house.count(what), due[what]);
        }
        int[] none = {-1, 8, 100, Integer.MIN_VALUE, Integer.MAX_VALUE};
        for (int what : none) {
            check.is("count " + what, house.count(what), -1);
        }
        house.make(1, 0, false, 0);
        check.is("all have a make now", house.count(6), 0);
        check.is("but not all a reader", house.count(7), 1);
    }

    private static void countOfUnreadableFiles() {
        FileHouse house = Houses.withPlainMakes(2);
        Houses.file(house, 10);
        Houses.file(house, 11);
        Houses.file(house, 9);
        check.is("no readers", house.count(7), 3);
        house.reader(1, 0);
        check.is("one reader", house.count(7), 2);
        house.turner(0, 1, 0, 0, 1);
        check.is("one turner", house.count(7), 1);
        house.machine(0, 10, 20);
        house.machine(1, 10, 15);
        house.year(15);
        check.is("maybe", house.count(7), 1);
        house.year(16);
        check.is("the turner is dead", house.count(7), 2);
        house.year(20);
        check.is("the reader's last year", house.count(7), 2);
        house.year(21);
        check.is("the reader is dead", house.count(7), 3);
    }
}
