/** The boundary cases that the section "Terms" names, each seen through the promise that answers it. */
public final class TermEdgesTest {
    private static final Check check = new Check("TermEdgesTest");

    public static void main(String[] args) {
        bytes();
        properties();
        bendsBorne();
        mark();
        recordsEnd();
        sumIsNoRecord();
        strangeTags();
        lengths();
        sums();
        bothFaults();
        theMake();
        makesAsTheyAreNow();
        yearsOfMachines();
        turned();
        turnedTooLong();
        keptAlike();
        fourTurners();
        livingMachines();
        keptOnRoads();
        bestRoad();
        readable();
        lastYear();
        planned();
        cheapestOfAPlan();
        houseOwnsItsMemory();
        check.end();
    }

    private static void bytes() {
        check.hold("Terms", "BYTES are 0 to 255.");
        FileHouse house = new FileHouse();
        Houses.make(house, 1, false, 0, 0, 255);
        Houses.file(house, 0, 255, 0, 3, 0, 128, 255);
        check.is("promise 11: a mark of 0 and 255", house.know(0), 0);
        int[] due = {0, 255, 0, 3, 0, 128, 255};
        for (int i = 0; i < due.length; i++) {
            check.is("promise 20: byte " + i, house.look(0, 100 + i), due[i]);
        }
    }

    private static void properties() {
        check.hold("Terms", "PROPERTIES that it can hold (of 0 to 11, as bits)");
        FileHouse house = new FileHouse();
        Houses.make(house, 4095, false, 3, 1);
        Houses.make(house, 1 << 11, false, 3, 1);
        Houses.make(house, 0, false, 3, 1);
        Houses.file(house, 1, 0, 0, 11, 0);
        Houses.file(house, 1, 12, 0);
        Houses.file(house, 1, 31, 0, 32, 0, 255, 0);
        check.is("promise 10: tags 0 and 11", house.bends(0, 0), 0);
        check.is("promise 10: tag 11 alone is held", house.bends(0, 1), 1);
        check.is("promise 10: none is held", house.bends(0, 2), 2);
        check.is("promise 20: both are had", house.look(0, 2), 1 << 11 | 1);
        check.is("promise 10: tag 12", house.bends(1, 0), 1);
        check.is("promise 20: tag 12 is not had", house.look(1, 2), 0);
        check.is("promise 10: tags 31, 32 and 255", house.bends(2, 0), 3);
        check.is("promise 20: they are not had", house.look(2, 2), 0);
    }

    private static void bendsBorne() {
        check.hold("Terms", "A MAKE FITS a FILE if it has not more BENDS than it bears.");
        for (int bears = 0; bears <= 3; bears++) {
            FileHouse house = new FileHouse();
            Houses.make(house, 0, false, bears, 1);
            for (int bends = 0; bends <= 4; bends++) {
                int[] bytes = new int[1 + 2 * bends];
                bytes[0] = 1;
                Houses.file(house, bytes);
                check.is("promise 10: bends", house.bends(bends, 0), bends);
                check.is("promise 11: " + bends + " bends where " + bears + " are borne", house.know(bends),
                        bends <= bears ? 0 : -1);
            }
        }
    }

    private static void mark() {
        check.hold("Terms", "it must begin with its MARK");
        for (int n = 1; n <= 4; n++) {
            FileHouse house = new FileHouse();
            house.feed(0x07080900, 0, 0, 0, 0);
            house.make(n, 4095, false, 0);
            house.feed(0x07080900, 0, 0, 0, 0);
            check.is("promise 10: the mark and no more", house.bends(house.file(n), 0), 0);
            if (n > 1) {
                house.feed(0x07080900, 0, 0, 0, 0);
                check.is("promise 10: a byte less than the mark", house.bends(house.file(n - 1), 0), -2);
            }
            for (int i = 0; i < n; i++) {
                house.feed(0x07080900 + (1 << 24 - 8 * i), 0, 0, 0, 0);
                check.is("promise 10: byte " + i + " is another one", house.bends(house.file(n), 0), -2);
            }
        }
    }

    private static void recordsEnd() {
        check.hold("Terms", "as long as there are BYTES");
        FileHouse house = new FileHouse();
        Houses.make(house, 1, false, 0, 1, 2);
        Houses.file(house, 1, 2);
        Houses.file(house, 1, 2, 0, 0);
        Houses.file(house, 1, 2, 0, 0, 0, 1, 0);
        for (int f = 0; f < 3; f++) {
            check.is("promise 10: no bends with " + f + " records", house.bends(f, 0), 0);
            check.is("promise 20: " + f + " records", house.look(f, 1), f);
            check.is("promise 12: no record " + f, house.record(f, f, 0), -1);
        }
        check.is("promise 12: place of an empty record at the end", house.record(1, 0, 2), 4);
    }

    private static void sumIsNoRecord() {
        check.hold("Terms", "(but the last one of the FILE, if the MAKE has a SUM and one is there behind the MARK)");
        FileHouse house = new FileHouse();
        Houses.make(house, 1, true, 3, 1);
        Houses.file(house, 1);
        Houses.file(house, 1, 1);
        Houses.file(house, 1, 0, 1);
        Houses.file(house, 1, 0, 0, 1);
        Houses.file(house, 1, 0, 1, 2);
        int[] bends = {1, 0, 1, 0, 1};
        int[] records = {0, 0, 0, 1, 0};
        for (int f = 0; f < bends.length; f++) {
            check.is("promise 10: bends with " + f + " bytes behind the mark", house.bends(f, 0), bends[f]);
            check.is("promise 20: records of them", house.look(f, 1), records[f]);
        }
    }

    private static void strangeTags() {
        check.hold("Terms", "a TAG that is none of the MAKE's PROPERTIES (the RECORD is passed over, whatever it is)");
        FileHouse house = new FileHouse();
        Houses.make(house, 0b101, false, 3, 1);
        Houses.file(house, 1, 1, 0, 1, 2, 0, 0, 3, 1, 2, 2, 0);
        check.is("promise 10: an empty one, one that looks like a record, another one", house.bends(0, 0), 3);
        check.is("promise 20: only the last one is a record", house.look(0, 1), 1);
        check.is("promise 12: its tag", house.record(0, 0, 0), 2);
        check.is("promise 12: its place", house.record(0, 0, 2), 12);
        check.is("promise 20: what is had", house.look(0, 2), 0b100);
    }

    private static void lengths() {
        check.hold("Terms", "a LENGTH that is wanting, or more than there is (the RECORD is passed over, and is the last one)");
        FileHouse house = new FileHouse();
        Houses.make(house, 1, false, 3, 1);
        Houses.make(house, 1, true, 3, 2);
        int[][] rows = {{1, 0}, {1, 0, 0}, {1, 0, 1}, {1, 0, 1, 0}, {1, 0, 2, 0}, {1, 0, 2, 0, 0}, {1, 0, 3, 0, 0},
            {1, 0, 255, 0, 0, 0, 0}, {1, 0, 128, 0, 0}, {2, 0, 1, 0, 3}, {2, 0, 2, 0, 4}, {2, 0, 2}, {2, 0, 0, 2}};
        int[] bends = {1, 0, 1, 0, 1, 0, 1, 1, 1, 0, 1, 1, 0};
        for (int f = 0; f < rows.length; f++) {
            Houses.file(house, rows[f]);
            check.is("promise 10: bends of row " + f, house.bends(f, rows[f][0] - 1), bends[f]);
            check.is("promise 20: records of row " + f, house.look(f, 1), 1 - bends[f]);
        }
        int[] longest = new int[60];
        longest[0] = 1;
        longest[2] = 57;
        check.is("promise 10: as much as there is of 60", house.bends(Houses.file(house, longest), 0), 0);
        longest[2] = 58;
        check.is("promise 10: one more", house.bends(Houses.file(house, longest), 0), 1);
    }

    private static void sums() {
        check.hold("Terms", "its BYTE is not the sum of all BYTES ahead of it (from the MARK on), mod 256, or there is none");
        FileHouse house = new FileHouse();
        Houses.make(house, 1, true, 3, 200);
        int[] middles = {0, 54, 55, 56, 255};
        for (int middle : middles) {
            int sum = 200 + 1 + middle & 255;
            int right = Houses.file(house, 200, 0, 1, middle, sum);
            int more = Houses.file(house, 200, 0, 1, middle, sum + 1 & 255);
            int less = Houses.file(house, 200, 0, 1, middle, sum - 1 & 255);
            check.is("promise 10: the sum " + (201 + middle), house.bends(right, 0), 0);
            check.is("promise 10: one more than it", house.bends(more, 0), 1);
            check.is("promise 10: one less than it", house.bends(less, 0), 1);
            check.is("promise 20: the record is there with a wrong sum", house.look(more, 1), 1);
        }
        check.is("promise 10: there is none", house.bends(Houses.file(house, 200), 0), 1);
        check.is("promise 10: it is alone", house.bends(Houses.file(house, 200, 200), 0), 0);
        Houses.make(house, 1, true, 3, 0);
        Houses.make(house, 1, true, 3, 5, 5);
        check.is("promise 10: a mark of 0 is no sum of nothing", house.bends(Houses.file(house, 0), 1), 1);
        check.is("promise 10: a mark's end is no sum of its begin", house.bends(Houses.file(house, 5, 5), 2), 1);
    }

    private static void bothFaults() {
        check.hold("Terms", "(A RECORD can have both of the first two: that is one BEND.)");
        FileHouse house = new FileHouse();
        Houses.make(house, 1, false, 3, 1);
        Houses.make(house, 1, true, 3, 1);
        int wanting = Houses.file(house, 1, 9);
        int tooLong = Houses.file(house, 1, 9, 3, 0, 0);
        check.is("promise 10: strange and without length", house.bends(wanting, 0), 1);
        check.is("promise 10: strange and too long", house.bends(tooLong, 0), 1);
        check.is("promise 10: a wrong sum is a second one", house.bends(tooLong, 1), 2);
        check.is("promise 10: two records are two", house.bends(Houses.file(house, 1, 9, 0, 0, 9), 0), 2);
    }

    private static void theMake() {
        check.hold("Terms", "of those that FIT, the one with fewest BENDS, of like ones the lowest");
        FileHouse house = new FileHouse();
        Houses.make(house, 0b0111, false, 0, 1);
        Houses.make(house, 0b0001, false, 3, 1);
        Houses.make(house, 0b0011, false, 2, 1);
        Houses.make(house, 0b0110, false, 2, 1);
        Houses.file(house, 1, 0, 0, 1, 0, 2, 0);
        Houses.file(house, 1, 0, 0, 1, 0, 2, 0, 3, 0);
        Houses.file(house, 1, 3, 0, 3, 0, 3, 0);
        Houses.file(house, 1, 3, 0, 3, 0, 3, 0, 3, 0);
        check.is("promise 11: without bends", house.know(0), 0);
        check.is("promise 10: one bend, but none is borne", house.bends(1, 0), 1);
        check.is("promise 11: two bends before three, the lower of two", house.know(1), 2);
        check.is("promise 11: the only one that bears three", house.know(2), 1);
        check.is("promise 11: none bears four", house.know(3), -1);
    }

    private static void makesAsTheyAreNow() {
        check.hold("Terms", "(By MAKES as they are now.)");
        FileHouse house = new FileHouse();
        Houses.file(house, 1, 2, 1, 0);
        check.is("promise 21: without make", house.count(6), 1);
        Houses.make(house, 0b1, false, 3, 1);
        check.is("promise 11: the first that fits", house.know(0), 0);
        check.is("promise 20: it has nothing", house.look(0, 2), 0);
        Houses.make(house, 0b10, false, 0, 1, 2);
        check.is("promise 11: one with fewer bends", house.know(0), 1);
        check.is("promise 20: what it has now", house.look(0, 2), 0b10);
        check.is("promise 12: where it has it", house.record(0, 0, 2), 4);
        Houses.make(house, 0b10, false, 0, 1, 2);
        check.is("promise 11: a later like one", house.know(0), 1);
        check.is("promise 21: all have a make", house.count(6), 0);
    }

    private static void yearsOfMachines() {
        check.hold("Terms", "each lives SURELY to a year and MAYBE to another one, not ahead of that (999 both at first)");
        FileHouse house = Houses.withPlainMakes(8);
        for (int m = 0; m < 8; m++) {
            Houses.file(house, 10 + m);
            house.reader(m, m);
            check.is("promise 17: machine " + m + " surely", house.last(m, true), 999);
            check.is("promise 17: machine " + m + " maybe", house.last(m, false), 999);
        }
        check.is("promise 6: both alike", house.machine(0, 500, 500), true);
        check.is("promise 6: maybe one ahead", house.machine(0, 500, 499), false);
        check.is("promise 6: maybe one behind", house.machine(0, 500, 501), true);
        check.is("promise 17: surely", house.last(0, true), 500);
        check.is("promise 17: maybe", house.last(0, false), 501);
    }

    private static void bytesAre(String what, FileHouse house, int f, int... due) {
        check.is(what + ", its length", house.look(f, 0), due.length);
        for (int i = 0; i < due.length; i++) {
            check.is(what + ", byte " + i, house.look(f, 100 + i), due[i]);
        }
    }

    private static void turned() {
        check.hold("Terms", "those whose TAG is a PROPERTY of that MAKE and not dropped, then, if it has one, the SUM");
        FileHouse house = new FileHouse();
        Houses.make(house, 4095, false, 3, 1);
        Houses.make(house, 0b100000000011, true, 0, 9, 250);
        Houses.make(house, 4095, false, 0, 8);
        Houses.file(house, 1, 11, 1, 7, 2, 0, 0, 0, 11, 0, 1, 1, 5, 40, 0, 0);
        Houses.file(house, 1);
        house.turner(0, 1, 0b10, 0, 0);
        house.turner(0, 1, 4095, 0, 0);
        house.turner(0, 2, 0, 0, 0);
        bytesAre("promise 13: 2 is no property, 1 is dropped, the bends stay behind", house, house.turn(0, 0),
                9, 250, 11, 1, 7, 0, 0, 11, 0, 9 + 250 + 11 + 1 + 7 + 11 & 255);
        bytesAre("promise 13: all dropped", house, house.turn(0, 1), 9, 250, 3);
        bytesAre("promise 13: no records and no sum", house, house.turn(1, 2), 8);
        bytesAre("promise 13: the first bytes stay", house, 1, 1);
        check.is("promise 20: from", house.look(2, 4), 0);
        check.is("promise 11: the new one's make", house.know(2), 1);
    }

    private static void turnedTooLong() {
        check.hold("Terms", "(More than 60 BYTES: it can't.)");
        for (int length = 56; length <= 60; length++) {
            FileHouse house = new FileHouse();
            Houses.make(house, 3, false, 0, 1);
            Houses.make(house, 3, false, 0, 2, 2, 2);
            Houses.make(house, 3, true, 0, 3, 3, 3);
            Houses.make(house, 2, false, 0, 4, 4, 4, 4);
            for (int m = 1; m <= 3; m++) {
                house.turner(0, m, 0, 0, 0);
            }
            int[] bytes = new int[length];
            bytes[0] = 1;
            bytes[3] = 1;
            bytes[4] = length - 5;
            Houses.file(house, bytes);
            int[] due = {length + 2, length + 3, length + 1};
            for (int t = 0; t <= 2; t++) {
                int made = house.turn(0, t);
                check.is("promise 13: from " + length + " to " + due[t], made >= 0, due[t] <= 60);
                check.is("promise 20: so many are there", house.look(made, 0), due[t] <= 60 ? due[t] : -1);
            }
        }
    }

    private static void keptAlike() {
        check.hold("Terms", "each PROPERTY that the first one HAS, and of which the RECORDS of both, in order, are alike");
        FileHouse house = Houses.withPlainMakes(2);
        Houses.file(house, 10, 0, 1, 5, 0, 0, 11, 2, 0, 255);
        int[][] others = {{11, 11, 2, 0, 255, 0, 1, 5, 0, 0}, {11, 0, 0, 0, 1, 5, 11, 2, 0, 255},
            {11, 0, 1, 5, 11, 2, 0, 254}, {11, 0, 1, 5, 0, 0, 0, 0, 11, 2, 1, 255}, {11, 0, 1, 5, 0, 1, 0},
            {11, 5, 0}, {11}, {9, 0, 1, 5, 0, 0, 11, 2, 0, 255}};
        int[] due = {1 << 11 | 1, 1 << 11, 0, 0, 0, 0, 0, 0};
        for (int i = 0; i < others.length; i++) {
            int f = Houses.file(house, others[i]);
            check.is("promise 14: with row " + i, house.kept(0, f), due[i]);
            check.is("promise 14: row " + i + " with it", house.kept(f, 0), due[i]);
            check.is("promise 14: row " + i + " with itself", house.kept(f, f), house.look(f, 2));
        }
    }

    private static void fourTurners() {
        check.hold("Terms", "a row of TURNERS, at most 4 (none, too), each from the MAKE that the one ahead leads to");
        FileHouse house = Houses.withPlainMakes(6);
        Houses.file(house, 10);
        check.is("promise 15: none, too", house.road(0, 0), 0);
        check.is("promise 16: none of them", house.step(0), -1);
        for (int m = 0; m < 5; m++) {
            house.turner(m, m + 1, 0, 1, 0);
            check.is("promise 15: " + (m + 1) + " turners", house.road(0, m + 1), m < 4 ? m + 1 : -1);
        }
        check.is("promise 16: the fourth", house.step(3), 3);
        check.is("promise 16: no fifth", house.step(4), -1);
        house.turner(2, 4, 0, 9999, 0);
        check.is("promise 15: a dear one makes it short enough", house.road(0, 5), 2 + 9999 + 1);
        Houses.file(house, 15);
        check.is("promise 15: no turner is gone back", house.road(1, 4), -1);
    }

    private static void livingMachines() {
        check.hold("Terms", "that live SURELY in that year");
        FileHouse house = Houses.withPlainMakes(3);
        Houses.file(house, 10);
        house.turner(0, 1, 0, 0, 1);
        house.turner(1, 2, 0, 0, 2);
        house.machine(1, 20, 999);
        house.machine(2, 21, 999);
        house.year(20);
        check.is("promise 15: in the last year of the first", house.road(0, 2), 0);
        check.is("promise 13: turned in its last year", house.turn(0, 0), 1);
        house.year(21);
        check.is("promise 15: a year behind it, though it lives maybe", house.road(0, 1), -1);
        check.is("promise 13: nor is it turned", house.turn(0, 0), -1);
        check.is("promise 15: the last year of the second", house.road(1, 2), 0);
        house.year(22);
        check.is("promise 15: a year behind that", house.road(1, 2), -1);
        check.is("promise 15: none is needed", house.road(1, 1), 0);
    }

    private static void keptOnRoads() {
        check.hold("Terms", "that all MAKES of the row hold and no TURNER of it drops");
        FileHouse house = new FileHouse();
        Houses.make(house, 0b1111, false, 0, 1);
        Houses.make(house, 0b1110, false, 0, 2);
        Houses.make(house, 0b1011, false, 0, 3);
        Houses.file(house, 1, 0, 0, 1, 0, 2, 0, 3, 0);
        house.turner(0, 1, 0, 1, 0);
        house.turner(1, 2, 0b1000, 1, 0);
        int[] due = {2, -1, 2, -1, -1, -1, -1, -1, -1};
        for (int set = 0; set < due.length; set++) {
            house.must(0, set);
            check.is("promise 15: must keep " + set, house.road(0, 2), due[set]);
        }
        check.hold("Terms", "MUST of a FILE: PROPERTIES (bits; none at first); those of them that it HAS must be KEPT");
        check.is("promise 20: none at first", house.look(Houses.file(house, 1, 1, 0), 3), 0);
        house.must(1, 4095 - 0b10);
        check.is("promise 15: it has none of them", house.road(1, 2), 2);
        house.must(1, 4095);
        check.is("promise 15: the one that it has is kept", house.road(1, 2), 2);
    }

    private static void stepsAre(String what, FileHouse house, int... due) {
        for (int i = 0; i < due.length; i++) {
            check.is("promise 16: " + what + ", step " + i, house.step(i), due[i]);
        }
        check.is("promise 16: " + what + ", no more", house.step(due.length), -1);
    }

    private static void bestRoad() {
        check.hold("Terms", "the one of least PRICE in all; of like ones with fewest TURNERS; of like ones the least row");
        FileHouse house = Houses.withPlainMakes(4);
        Houses.file(house, 10);
        house.turner(2, 3, 0, 0, 0);
        house.turner(0, 2, 0, 10, 0);
        house.turner(0, 1, 0, 4, 0);
        house.turner(1, 2, 0, 5, 0);
        check.is("promise 15: one less by a longer row", house.road(0, 3), 9);
        stepsAre("one less by a longer row", house, 2, 3, 0);
        house.turner(0, 2, 0, 9, 0);
        check.is("promise 15: of like price", house.road(0, 3), 9);
        stepsAre("of like price the shorter row, though it is greater", house, 4, 0);
        house.turner(0, 2, 0, 9, 0);
        house.turner(2, 3, 0, 0, 0);
        check.is("promise 15: of like price and length", house.road(0, 3), 9);
        stepsAre("of like price and length the least row", house, 4, 0);
        house.turner(0, 2, 4095, 0, 0);
        check.is("promise 15: nothing must be kept", house.road(0, 3), 0);
        stepsAre("nothing must be kept", house, 7, 0);
    }

    private static void readable() {
        check.hold("Terms", "if a ROAD (whatever it KEEPS) leads to a MAKE that some READER opens on a MACHINE");
        FileHouse house = Houses.withPlainMakes(6);
        for (int m = 0; m < 6; m++) {
            Houses.file(house, 10 + m, 0, 0);
            house.must(m, 1);
            if (m > 0) {
                house.turner(m - 1, m, 1, 0, 0);
            }
        }
        Houses.file(house, 9);
        check.is("promise 21: no reader", house.count(7), 7);
        house.reader(5, 1);
        check.is("promise 17: five turners", house.last(0, false), -1);
        for (int f = 1; f <= 5; f++) {
            check.is("promise 17: " + (5 - f) + " turners", house.last(f, true), 999);
        }
        check.is("promise 17: without make", house.last(6, false), -1);
        check.is("promise 21: too far, and without make", house.count(7), 2);
        check.hold("Terms", "all MACHINES living SURELY in that year; or MAYBE: all living MAYBE");
        house.machine(0, 7, 30);
        house.machine(1, 8, 20);
        check.is("promise 17: the turner's machine dies first", house.last(4, true), 7);
        check.is("promise 17: the reader's machine dies first", house.last(4, false), 20);
        check.is("promise 17: no turner is needed", house.last(5, true), 8);
        house.year(20);
        check.is("promise 21: maybe in the last year", house.count(7), 2);
        house.year(21);
        check.is("promise 21: a year behind it", house.count(7), 7);
    }

    private static void lastYear() {
        check.hold("Terms", "the greatest one (to 999) in which it is, SURELY or MAYBE");
        FileHouse house = Houses.withPlainMakes(2);
        Houses.file(house, 10);
        house.reader(0, 0);
        check.is("promise 17: 999", house.last(0, true), 999);
        house.machine(0, 0, 0);
        check.is("promise 17: 0 surely", house.last(0, true), 0);
        check.is("promise 17: 0 maybe", house.last(0, false), 0);
        house.machine(0, 0, 999);
        check.is("promise 17: maybe to 999", house.last(0, false), 999);
        house.machine(1, 5, 6);
        house.reader(0, 1);
        check.is("promise 17: the greater of two readers surely", house.last(0, true), 5);
        check.is("promise 17: the greater of two readers maybe", house.last(0, false), 999);
        house.year(999);
        check.is("promise 21: still maybe in 999", house.count(7), 0);
    }

    private static void planned() {
        check.hold("Terms", "for each FILE that no other one comes FROM, and that HAS a MAKE");
        FileHouse house = Houses.withPlainMakes(3);
        check.is("promise 18: no file", house.plan(0), 0);
        Houses.file(house, 9);
        check.is("promise 18: none with a make", house.plan(0), 0);
        Houses.file(house, 10);
        check.is("promise 18: one without a road", house.plan(0), -2);
        house.reader(2, 0);
        house.turner(0, 1, 0, 10, 0);
        house.turner(1, 2, 0, 100, 0);
        check.is("promise 18: one with a road", house.plan(0), 110);
        house.turn(1, 0);
        check.is("promise 18: what comes from it, alone", house.plan(0), 100);
        house.turn(1, 0);
        check.is("promise 18: two that come from it", house.plan(0), 200);
        check.is("promise 19: it goes nowhere", house.goal(0, 1), -1);
        house.turn(2, 1);
        check.is("promise 18: one of them, and one from the other", house.plan(0), 100);
        check.is("promise 19: without make", house.goal(0, 0), -1);
        check.is("promise 19: as it is", house.goal(0, 4), 2);
    }

    private static void cheapestOfAPlan() {
        check.hold("Terms", "the cheapest BEST ROAD in this YEAR to a MAKE that a READER opens on a MACHINE that lives SURELY in that year");
        FileHouse house = Houses.withPlainMakes(4);
        Houses.file(house, 10);
        house.turner(0, 3, 0, 6, 1);
        house.turner(0, 1, 0, 5, 1);
        house.turner(1, 2, 0, 1, 1);
        house.turner(0, 2, 0, 6, 1);
        house.machine(1, 30, 999);
        house.machine(2, 40, 999);
        house.reader(1, 2);
        house.reader(2, 3);
        house.year(30);
        check.is("promise 18: the last year of the cheapest reader", house.plan(40), 5);
        check.is("promise 19: its goal", house.goal(40, 0), 1);
        check.is("promise 18: a year behind it, though it lives maybe", house.plan(41), 6);
        check.is("promise 19: the goal then", house.goal(41, 0), 2);
        check.hold("Terms", "(of like PRICES the one with fewest TURNERS, then the least row, then the lowest MAKE)");
        house.reader(3, 3);
        check.is("promise 19: the least row of one turner", house.goal(41, 0), 3);
        check.hold("Terms", "A PLAN to a year");
        house.year(31);
        check.is("promise 18: the turners are dead in this year", house.plan(40), -2);
        check.is("promise 19: no goal", house.goal(40, 0), -1);
    }

    private static void houseOwnsItsMemory() {
        check.hold("Terms", "All memory is the house's own.");
        FileHouse one = Houses.withPlainMakes(2);
        FileHouse other = Houses.withPlainMakes(2);
        Houses.file(one, 10);
        one.turner(0, 1, 0, 3, 0);
        one.road(0, 1);
        one.machine(0, 5, 5);
        one.year(4);
        one.feed(1, 2, 3, 4, 5);
        check.is("promise 21: no file", other.count(1), 0);
        check.is("promise 21: no turner", other.count(3), 0);
        check.is("promise 21: year 0", other.count(4), 0);
        check.is("promise 21: no tape", other.count(5), 0);
        check.is("promise 16: no road", other.step(0), -1);
        Houses.file(other, 10);
        other.reader(0, 0);
        check.is("promise 17: its machine lives", other.last(0, true), 999);
    }
}
