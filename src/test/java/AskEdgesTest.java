/** The boundary cases that promises 10 to 12 and 14 to 21 name: the calls that only ask. */
public final class AskEdgesTest {
    private static final Check check = new Check("AskEdgesTest");
    private static final int[] NO_MAKE = {Integer.MIN_VALUE, -1, 2, 11, 12, Integer.MAX_VALUE};
    private static final int[] NO_FILE = {Integer.MIN_VALUE, -1, 3, 39, 40, Integer.MAX_VALUE};

    public static void main(String[] args) {
        bends();
        mostBends();
        know();
        record();
        mostRecords();
        kept();
        road();
        dearestRoad();
        stepOfTheRoad();
        stepStays();
        last();
        planYears();
        planWithoutRoads();
        dearestPlan();
        goal();
        goalWhereThePlanFails();
        look();
        lookWhereItComesFrom();
        count();
        countWithoutMake();
        countBeyondReading();
        check.end();
    }

    /** MAKES 0 and 1 with the marks 10 and 11; FILES of each, and a third one of none. */
    private static FileHouse houseOfThree() {
        FileHouse house = Houses.withPlainMakes(2);
        Houses.file(house, 10, 0, 1, 7);
        Houses.file(house, 11, 11, 0);
        Houses.file(house, 9);
        return house;
    }

    private static void bends() {
        check.hold("Promise 10", "-2: it does not begin with its MARK; NONE: no such ones");
        FileHouse house = houseOfThree();
        for (int m : NO_MAKE) {
            check.is("make " + m, house.bends(0, m), -1);
            check.is("make " + m + " of a file without make", house.bends(2, m), -1);
        }
        for (int f : NO_FILE) {
            check.is("file " + f, house.bends(f, 0), -1);
        }
        check.is("the first ones", house.bends(0, 0), 0);
        check.is("the last ones", house.bends(1, 1), 0);
        check.is("another mark", house.bends(0, 1), -2);
        check.is("no mark at all", house.bends(2, 0), -2);
        FileHouse full = Houses.withPlainMakes(12);
        for (int f = 0; f < 40; f++) {
            Houses.file(full, 21);
        }
        check.is("the last file by the last make", full.bends(39, 11), 0);
        check.is("no file 40", full.bends(40, 11), -1);
        check.is("no make 12", full.bends(39, 12), -1);
    }

    private static void mostBends() {
        check.hold("Promise 10", "(also more than it bears)");
        FileHouse house = new FileHouse();
        Houses.make(house, 0, true, 0, 1);
        Houses.make(house, 0, false, 3, 1);
        int[] bytes = new int[60];
        bytes[0] = 1;
        Houses.file(house, bytes);
        check.is("29 records and the sum", house.bends(0, 0), 30);
        check.is("29 records and a tag", house.bends(0, 1), 30);
        check.is("no make bears it", house.know(0), -1);
        Houses.file(house, 1, 5, 0, 6);
        check.is("one more than none", house.bends(1, 0), 1);
        Houses.file(house, 1, 0, 0, 0, 0, 0, 0, 0, 0);
        check.is("one more than three", house.bends(2, 1), 4);
    }

    private static void know() {
        check.hold("Promise 11", "NONE: there is none, no such FILE");
        FileHouse house = houseOfThree();
        int[] due = {0, 1, -1};
        for (int f = 0; f < due.length; f++) {
            check.is("file " + f, house.know(f), due[f]);
        }
        for (int f : NO_FILE) {
            check.is("file " + f, house.know(f), -1);
        }
        FileHouse full = Houses.withPlainMakes(12);
        for (int f = 0; f < 40; f++) {
            Houses.file(full, 21);
        }
        check.is("the last make of the last file", full.know(39), 11);
        check.is("no file 40", full.know(40), -1);
    }

    private static void record() {
        check.hold("Promise 12", "what 0 its TAG, 1 its LENGTH, 2 the place in the FILE where its BYTES begin. NONE: none such");
        FileHouse house = houseOfThree();
        int[] due = {0, 1, 3};
        for (int what = 0; what < due.length; what++) {
            check.is("what " + what, house.record(0, 0, what), due[what]);
            for (int f : NO_FILE) {
                check.is("file " + f, house.record(f, 0, what), -1);
            }
            check.is("a file without make", house.record(2, 0, what), -1);
        }
        int[] noWhat = {Integer.MIN_VALUE, -1, 3, Integer.MAX_VALUE};
        for (int what : noWhat) {
            check.is("what " + what, house.record(0, 0, what), -1);
        }
        int[] noRecord = {Integer.MIN_VALUE, -1, 1, 28, 29, 30, Integer.MAX_VALUE};
        for (int i : noRecord) {
            check.is("record " + i, house.record(0, i, 0), -1);
        }
        check.is("the greatest tag", house.record(1, 0, 0), 11);
        check.is("no length", house.record(1, 0, 1), 0);
        check.is("a place behind the last byte", house.record(1, 0, 2), 3);
    }

    private static void mostRecords() {
        check.hold("Promise 12", "RECORD i of FILE f");
        FileHouse house = new FileHouse();
        Houses.make(house, 4095, false, 0, 1);
        int[] bytes = new int[59];
        bytes[0] = 1;
        Houses.file(house, bytes);
        int[] one = new int[60];
        one[0] = 1;
        one[1] = 11;
        one[2] = 57;
        Houses.file(house, one);
        for (int i = 0; i < 29; i++) {
            check.is("place of record " + i, house.record(0, i, 2), 3 + 2 * i);
        }
        check.is("no thirtieth", house.record(0, 29, 2), -1);
        check.is("so many", house.look(0, 1), 29);
        check.is("they are alike with themselves", house.kept(0, 0), 1);
        check.is("no other is alike", house.kept(0, 1), 0);
        check.is("the longest record", house.record(1, 0, 1), 57);
        check.is("no other beside it", house.record(1, 1, 1), -1);
    }

    private static void kept() {
        check.hold("Promise 14", "as bits; NONE: no such ones. (A FILE without MAKE HAS none.)");
        FileHouse house = houseOfThree();
        for (int f : NO_FILE) {
            check.is("file " + f + " first", house.kept(f, 0), -1);
            check.is("file " + f + " second", house.kept(0, f), -1);
            check.is("file " + f + " with itself", house.kept(f, f), -1);
            check.is("file " + f + " with one without make", house.kept(2, f), -1);
        }
        check.is("the least property", house.kept(0, 0), 1);
        check.is("the greatest one", house.kept(1, 1), 2048);
        check.is("none in common", house.kept(0, 1), 0);
        for (int f = 0; f < 3; f++) {
            check.is("without make, first", house.kept(2, f), 0);
            check.is("without make, second", house.kept(f, 2), 0);
        }
        int[] all = new int[25];
        all[0] = 11;
        for (int p = 0; p < 12; p++) {
            all[1 + 2 * p] = p;
        }
        int f = Houses.file(house, all);
        check.is("all of them", house.kept(f, f), 4095);
    }

    private static void road() {
        check.hold("Promise 15", "NONE: there is none, no such ones");
        FileHouse house = houseOfThree();
        for (int m : NO_MAKE) {
            check.is("make " + m, house.road(0, m), -1);
        }
        for (int f : NO_FILE) {
            check.is("file " + f, house.road(f, 0), -1);
        }
        check.is("a file without make", house.road(2, 0), -1);
        check.is("to its own make", house.road(0, 0), 0);
        check.is("no turner", house.road(0, 1), -1);
        house.turner(0, 1, 0, 0, 0);
        check.is("one for nothing", house.road(0, 1), 0);
        check.is("not the other way", house.road(1, 0), -1);
        house.must(0, 4095);
        check.is("it keeps all", house.road(0, 1), 0);
        house.turner(1, 0, 1 << 11, 0, 0);
        house.must(1, 1 << 11);
        check.is("it drops what must be kept", house.road(1, 0), -1);
        house.must(1, 4095 >> 1);
        check.is("it need not be kept", house.road(1, 0), 0);
    }

    private static void dearestRoad() {
        check.hold("Promise 15", "The PRICE of THE BEST ROAD in this YEAR for FILE f to MAKE m");
        FileHouse house = Houses.withPlainMakes(12);
        for (int m = 7; m < 11; m++) {
            house.turner(m, m + 1, 0, 9999, 7);
        }
        for (int f = 0; f < 40; f++) {
            Houses.file(house, 17);
        }
        check.is("the dearest of all", house.road(39, 11), 4 * 9999);
        check.is("three of its turners", house.road(39, 10), 3 * 9999);
        check.is("no make behind it", house.road(39, 12), -1);
        check.is("no file behind it", house.road(40, 11), -1);
    }

    private static void stepOfTheRoad() {
        check.hold("Promise 16", "NONE: there is none such");
        FileHouse house = Houses.withPlainMakes(5);
        Houses.file(house, 10);
        check.is("no road yet", house.step(0), -1);
        for (int m = 0; m < 4; m++) {
            house.turner(m, m + 1, 0, 1, 0);
        }
        check.is("none told yet", house.step(0), -1);
        for (int m = 4; m >= 0; m--) {
            house.road(0, m);
            for (int i = 0; i < 4; i++) {
                check.is("step " + i + " of " + m, house.step(i), i < m ? i : -1);
            }
            int[] none = {Integer.MIN_VALUE, -1, m, 4, 5, 32, Integer.MAX_VALUE};
            for (int i : none) {
                check.is("step " + i + " of " + m, house.step(i), -1);
            }
        }
        for (int t = 4; t < 24; t++) {
            house.turner(t % 4, t % 4 + 1, 0, t < 20 ? 1 : 0, 0);
        }
        house.road(0, 4);
        for (int i = 0; i < 4; i++) {
            check.is("the greatest turners, step " + i, house.step(i), 20 + i);
        }
    }

    private static void stepStays() {
        check.hold("Promise 16", "THE BEST ROAD that road() told last (that was not NONE)");
        FileHouse house = Houses.withPlainMakes(3);
        Houses.file(house, 10);
        Houses.file(house, 9);
        house.turner(1, 2, 0, 1, 0);
        house.turner(0, 1, 0, 1, 0);
        house.reader(1, 0);
        house.road(0, 2);
        int[][] refused = {{0, 3}, {0, -1}, {-1, 0}, {2, 0}, {1, 0}};
        for (int[] none : refused) {
            check.is("road of " + none[0] + " to " + none[1], house.road(none[0], none[1]), -1);
            check.is("the first step stays", house.step(0), 1);
            check.is("the second stays", house.step(1), 0);
        }
        check.is("a plan tells no road", house.plan(0), 1);
        check.is("nor does a goal", house.goal(0, 0), 1);
        house.turner(0, 2, 0, 0, 0);
        house.turn(0, 1);
        house.machine(0, 0, 0);
        house.year(1);
        check.is("there is no road now", house.road(0, 2), -1);
        check.is("it stays behind all that", house.step(1), 0);
        check.is("a road of none is told, too", house.road(0, 0), 0);
        check.is("it has no step", house.step(0), -1);
    }

    private static void last() {
        check.hold("Promise 17", "NONE: there is none, no such FILE");
        FileHouse house = houseOfThree();
        check.is("no reader surely", house.last(0, true), -1);
        check.is("no reader maybe", house.last(0, false), -1);
        house.reader(1, 7);
        house.machine(7, 0, 1);
        check.is("year 0 is a year", house.last(1, true), 0);
        check.is("year 1 maybe", house.last(1, false), 1);
        check.is("no road surely", house.last(0, true), -1);
        check.is("no road maybe", house.last(0, false), -1);
        check.is("without make surely", house.last(2, true), -1);
        check.is("without make maybe", house.last(2, false), -1);
        for (int f : NO_FILE) {
            check.is("file " + f + " surely", house.last(f, true), -1);
            check.is("file " + f + " maybe", house.last(f, false), -1);
        }
        house.turner(0, 1, 4095, 9999, 0);
        check.is("by a turner", house.last(0, false), 1);
        house.machine(7, 999, 999);
        check.is("the last of all", house.last(0, true), 999);
        house.year(999);
        house.machine(7, 998, 998);
        check.is("a year that is over", house.last(0, true), 998);
    }

    private static void planYears() {
        check.hold("Promise 18", "The PRICE of a PLAN to a year (not ahead of this YEAR)");
        FileHouse house = Houses.withPlainMakes(1);
        Houses.file(house, 10);
        house.reader(0, 0);
        int[] years = {0, 1, 500, 999};
        for (int now : years) {
            house.year(now);
            check.is("this year " + now, house.plan(now), 0);
            check.is("the last year", house.plan(999), 0);
            check.is("goal to this year " + now, house.goal(now, 0), 0);
            check.is("goal to the last year", house.goal(999, 0), 0);
            int[] none = {Integer.MIN_VALUE, -1, now - 1, 1000, Integer.MAX_VALUE};
            for (int y : none) {
                check.is("year " + y + " in " + now, house.plan(y), -1);
                check.is("goal to " + y + " in " + now, house.goal(y, 0), -1);
            }
        }
    }

    private static void planWithoutRoads() {
        check.hold("Promise 18", "-2: for some FILE there is no such ROAD; NONE: no such year");
        FileHouse house = houseOfThree();
        check.is("no such year, though no road either", house.plan(1000), -1);
        check.is("no reader", house.plan(0), -2);
        house.reader(0, 0);
        check.is("the second has none", house.plan(0), -2);
        house.turner(1, 0, 1 << 11, 5, 1);
        check.is("all have one", house.plan(0), 5);
        house.must(1, 1 << 11);
        check.is("the second may not lose that", house.plan(0), -2);
        house.reader(1, 2);
        check.is("it need not go", house.plan(0), 0);
        house.machine(0, 7, 999);
        check.is("the first, in its last year", house.plan(7), 0);
        check.is("a year behind, though it lives maybe", house.plan(8), -2);
    }

    private static void dearestPlan() {
        check.hold("Promise 18", "The PRICE of a PLAN");
        FileHouse house = Houses.withPlainMakes(5);
        for (int f = 0; f < 40; f++) {
            Houses.file(house, 10);
        }
        for (int m = 0; m < 4; m++) {
            house.turner(m, m + 1, 0, 9999, 0);
        }
        house.reader(4, 0);
        check.is("forty files by four turners", house.plan(999), 40 * 4 * 9999);
        check.is("goal of the last one", house.goal(999, 39), 4);
    }

    private static void goal() {
        check.hold("Promise 19", "NONE: none, no such ones");
        FileHouse house = houseOfThree();
        check.is("no reader", house.goal(0, 0), -1);
        house.reader(0, 0);
        house.machine(0, 50, 999);
        for (int f : NO_FILE) {
            check.is("file " + f, house.goal(0, f), -1);
        }
        int[] noYear = {Integer.MIN_VALUE, -1, 1000, Integer.MAX_VALUE};
        for (int y : noYear) {
            check.is("year " + y, house.goal(y, 0), -1);
        }
        check.is("the least make", house.goal(0, 0), 0);
        check.is("in its last year", house.goal(50, 0), 0);
        check.is("a year behind it", house.goal(51, 0), -1);
        check.is("without make", house.goal(0, 2), -1);
        house.turner(0, 1, 0, 0, 0);
        house.turn(0, 0);
        check.is("another one comes from it", house.goal(0, 0), -1);
        FileHouse full = Houses.withPlainMakes(12);
        for (int f = 0; f < 40; f++) {
            Houses.file(full, 21);
        }
        full.reader(11, 0);
        check.is("the greatest make of the last file", full.goal(999, 39), 11);
        check.is("no file behind it", full.goal(999, 40), -1);
    }

    private static void goalWhereThePlanFails() {
        check.hold("Promise 19", "The MAKE to which FILE f goes by a PLAN to a year");
        FileHouse house = houseOfThree();
        house.reader(1, 0);
        check.is("the first has no road", house.plan(0), -2);
        check.is("it goes nowhere", house.goal(0, 0), -1);
        check.is("the second goes all the same", house.goal(0, 1), 1);
    }

    private static void look() {
        check.hold("Promise 20", "100 + i BYTE i. NONE for others");
        FileHouse house = houseOfThree();
        int[] others = {Integer.MIN_VALUE, -100, -1, 6, 7, 98, 99, 104, 159, 160, Integer.MAX_VALUE};
        for (int what : others) {
            check.is("what " + what, house.look(0, what), -1);
        }
        check.is("the first byte", house.look(0, 100), 10);
        check.is("the last byte", house.look(0, 103), 7);
        for (int f : NO_FILE) {
            for (int what = 0; what <= 5; what++) {
                check.is("file " + f + " what " + what, house.look(f, what), -1);
            }
            check.is("file " + f + " byte 0", house.look(f, 100), -1);
        }
        int[] bytes = new int[60];
        bytes[59] = 255;
        int f = Houses.file(house, bytes);
        check.is("sixty bytes", house.look(f, 0), 60);
        check.is("the sixtieth", house.look(f, 159), 255);
        check.is("no more", house.look(f, 160), -1);
        check.is("a file of one byte", house.look(2, 0), 1);
        check.is("it is there", house.look(2, 100), 9);
        check.is("no second one", house.look(2, 101), -1);
        check.is("without make it has no records", house.look(2, 1), 0);
        check.is("nor properties", house.look(2, 2), 0);
    }

    private static void lookWhereItComesFrom() {
        check.hold("Promise 20", "4 the FILE that it comes FROM (NONE), 5 the first one of those");
        FileHouse house = houseOfThree();
        house.turner(0, 1, 0, 0, 0);
        house.turner(1, 0, 0, 0, 0);
        house.must(1, 2048);
        for (int f = 3; f < 40; f++) {
            house.turn(f == 3 ? 1 : f - 1, f % 2 == 1 ? 1 : 0);
        }
        check.is("all turned from one another", house.count(1), 40);
        for (int f = 0; f < 3; f++) {
            check.is("none", house.look(f, 4), -1);
            check.is("itself", house.look(f, 5), f);
        }
        check.is("the first turned one", house.look(3, 4), 1);
        check.is("must stays with the old one", house.look(3, 3), 0);
        check.is("the last turned one", house.look(39, 4), 38);
        check.is("the first of the longest row", house.look(39, 5), 1);
        check.is("no file 40", house.look(40, 4), -1);
    }

    private static void count() {
        check.hold("Promise 21", "NONE for others");
        FileHouse house = houseOfThree();
        int[] others = {Integer.MIN_VALUE, -2, -1, 8, 9, 100, Integer.MAX_VALUE};
        for (int what : others) {
            check.is("what " + what, house.count(what), -1);
        }
        int[] due = {2, 3, 0, 0, 0, 0, 1, 3};
        for (int what = 0; what < due.length; what++) {
            check.is("what " + what, house.count(what), due[what]);
        }
    }

    private static void countWithoutMake() {
        check.hold("Promise 21", "6 FILES without MAKE");
        FileHouse house = new FileHouse();
        check.is("no file", house.count(6), 0);
        for (int f = 0; f < 40; f++) {
            Houses.file(house, 10, 0, 0, 0, 0, 0, 0, 0, 0);
        }
        check.is("all of forty", house.count(6), 40);
        Houses.make(house, 0, false, 3, 10);
        check.is("four bends are too many", house.count(6), 40);
        Houses.make(house, 1, false, 0, 10);
        check.is("none of forty", house.count(6), 0);
    }

    private static void countBeyondReading() {
        check.hold("Promise 21", "7 FILES that are not READABLE in this YEAR, not even MAYBE");
        FileHouse house = houseOfThree();
        check.is("none is, without readers", house.count(7), 3);
        house.reader(0, 0);
        check.is("the one that is opened", house.count(7), 2);
        house.turner(1, 0, 4095, 9999, 1);
        house.must(1, 4095);
        check.is("the one that can be turned, whatever is kept", house.count(7), 1);
        house.machine(0, 0, 20);
        house.machine(1, 0, 10);
        int[] years = {0, 1, 10, 11, 20, 21};
        int[] due = {1, 1, 1, 2, 2, 3};
        for (int i = 0; i < years.length; i++) {
            house.year(years[i]);
            check.is("in year " + years[i], house.count(7), due[i]);
        }
        house.machine(0, 0, 999);
        house.year(999);
        check.is("in the last year of all", house.count(7), 2);
    }
}
