/** Promises 10 to 12 and the part of 20 that tells of RECORDS: bends, know, record, look. */
public final class ReadingTest {
    private static final Check check = new Check("ReadingTest");

    public static void main(String[] args) {
        recordsStandBehindTheMark();
        strangeTagsArePassedOver();
        wantingLengthIsTheLast();
        recordsBehindABrokenOneAreNotRead();
        bothFaultsAreOneBend();
        sumIsTheLastByte();
        sumLiesOutsideRecords();
        sumCanBeWanting();
        bendsAreCountedBeyondWhatIsBorne();
        fewestBendsThenLowestMake();
        onlyMakesThatFitAreTaken();
        laterMakesAreWeighed();
        recordsFollowTheMake();
        mostRecords();
        recordsAreOfTheFileAsked();
        wrongArguments();
        check.end();
    }

    private static void recordsStandBehindTheMark() {
        FileHouse house = new FileHouse();
        Houses.make(house, 0b1000_0000_0011, false, 0, 65, 66);
        Houses.file(house, 65, 66, 11, 2, 7, 8, 0, 0, 1, 1, 9, 0, 1, 5);
        check.is("no bends", house.bends(0, 0), 0);
        check.is("make", house.know(0), 0);
        int[][] due = {{11, 2, 4}, {0, 0, 8}, {1, 1, 10}, {0, 1, 13}};
        for (int i = 0; i < due.length; i++) {
            for (int what = 0; what < 3; what++) {
                check.is("record " + i + " what " + what, house.record(0, i, what), due[i][what]);
            }
        }
        check.is("a fifth record", house.record(0, 4, 0), -1);
        check.is("four records", house.look(0, 1), 4);
        check.is("properties", house.look(0, 2), 0b1000_0000_0011);
    }

    private static void strangeTagsArePassedOver() {
        FileHouse house = new FileHouse();
        Houses.make(house, 0b101, false, 3, 1);
        Houses.file(house, 1, 1, 1, 0, 12, 0, 2, 1, 9, 32, 2, 0, 0);
        check.is("three strange tags", house.bends(0, 0), 3);
        check.is("one record", house.look(0, 1), 1);
        check.is("its tag", house.record(0, 0, 0), 2);
        check.is("its place", house.record(0, 0, 2), 8);
        check.is("properties", house.look(0, 2), 4);
    }

    private static void wantingLengthIsTheLast() {
        FileHouse house = new FileHouse();
        Houses.make(house, 1, false, 3, 1);
        Houses.file(house, 1, 0);
        Houses.file(house, 1, 0, 0, 0);
        Houses.file(house, 1, 0, 1);
        Houses.file(house, 1, 0, 2, 7);
        Houses.file(house, 1, 0, 1, 7);
        Houses.file(house, 1, 0, 255, 7, 7);
        int[] bends = {1, 1, 1, 1, 0, 1};
        int[] records = {0, 1, 0, 0, 1, 0};
        for (int f = 0; f < bends.length; f++) {
            check.is("bends of " + f, house.bends(f, 0), bends[f]);
            check.is("records of " + f, house.look(f, 1), records[f]);
        }
    }

    private static void recordsBehindABrokenOneAreNotRead() {
        FileHouse house = new FileHouse();
        Houses.make(house, 1, false, 3, 1);
        Houses.file(house, 1, 0, 9, 0, 0, 0, 0);
        check.is("the broken one is the last", house.bends(0, 0), 1);
        check.is("no record behind it", house.look(0, 1), 0);
    }

    private static void bothFaultsAreOneBend() {
        FileHouse house = new FileHouse();
        Houses.make(house, 1, false, 3, 1);
        Houses.file(house, 1, 5, 9, 0, 0);
        Houses.file(house, 1, 5);
        check.is("strange and too long", house.bends(0, 0), 1);
        check.is("strange and without length", house.bends(1, 0), 1);
    }

    private static void sumIsTheLastByte() {
        FileHouse house = new FileHouse();
        Houses.make(house, 1, true, 3, 200, 100);
        Houses.file(house, 200, 100, 0, 1, 7, 308 & 255);
        Houses.file(house, 200, 100, 0, 1, 7, 8);
        Houses.file(house, 200, 100, 300 & 255);
        Houses.file(house, 200, 100, 0);
        int[] bends = {0, 1, 0, 1};
        for (int f = 0; f < bends.length; f++) {
            check.is("bends with sum of " + f, house.bends(f, 0), bends[f]);
        }
        check.is("the record is there all the same", house.look(1, 1), 1);
    }

    private static void sumLiesOutsideRecords() {
        FileHouse house = new FileHouse();
        Houses.make(house, 1, true, 3, 1);
        Houses.file(house, 1, 0, 1, 2);
        Houses.file(house, 1, 0, 1);
        Houses.file(house, 1, 0, 0, 1);
        check.is("the sum is no byte of a record", house.bends(0, 0), 1);
        check.is("nor its length", house.bends(1, 0), 1);
        check.is("an empty record ahead of the sum", house.bends(2, 0), 0);
        check.is("records", house.look(0, 1) + house.look(1, 1), 0);
        check.is("the empty record", house.look(2, 1), 1);
    }

    private static void sumCanBeWanting() {
        FileHouse house = new FileHouse();
        Houses.make(house, 1, true, 0, 0);
        Houses.make(house, 1, true, 1, 0);
        Houses.file(house, 0);
        check.is("no byte behind the mark", house.bends(0, 0), 1);
        check.is("only the second bears it", house.know(0), 1);
    }

    private static void bendsAreCountedBeyondWhatIsBorne() {
        FileHouse house = new FileHouse();
        Houses.make(house, 0, true, 0, 1);
        Houses.file(house, 1, 0, 0, 1, 0, 2, 0, 3, 0, 99);
        check.is("five bends", house.bends(0, 0), 5);
        check.is("no make", house.know(0), -1);
    }

    private static void fewestBendsThenLowestMake() {
        FileHouse house = new FileHouse();
        Houses.make(house, 0b001, false, 3, 1);
        Houses.make(house, 0b011, false, 3, 1);
        Houses.make(house, 0b011, false, 2, 1);
        Houses.make(house, 0b111, false, 0, 1);
        Houses.make(house, 0b111, false, 0, 1);
        Houses.file(house, 1, 0, 0, 1, 0);
        Houses.file(house, 1, 0, 0, 1, 0, 2, 0);
        Houses.file(house, 1, 0, 0);
        Houses.file(house, 1, 1, 0, 1, 0, 9, 0);
        check.is("none before some, lowest", house.know(0), 1);
        check.is("the one without bends", house.know(1), 3);
        check.is("all alike", house.know(2), 0);
        check.is("one bend", house.know(3), 1);
    }

    private static void onlyMakesThatFitAreTaken() {
        FileHouse house = new FileHouse();
        Houses.make(house, 0b011, false, 0, 1);
        Houses.make(house, 0b001, false, 2, 1);
        Houses.file(house, 1, 0, 0, 1, 0, 2, 0);
        check.is("fewer bends, but too many for it", house.bends(0, 0), 1);
        check.is("more bends, but borne", house.know(0), 1);
        check.is("its records", house.look(0, 1), 1);
    }

    private static void laterMakesAreWeighed() {
        FileHouse house = new FileHouse();
        Houses.file(house, 1, 0, 0, 1, 0);
        check.is("no make yet", house.know(0), -1);
        check.is("nothing to be had", house.look(0, 2), 0);
        Houses.make(house, 0b10, false, 1, 1);
        check.is("the first", house.know(0), 0);
        check.is("of the first", house.look(0, 2), 2);
        Houses.make(house, 0b01, false, 1, 1);
        check.is("a like one changes nothing", house.know(0), 0);
        Houses.make(house, 0b11, false, 0, 1);
        check.is("a better one does", house.know(0), 2);
        check.is("records now", house.look(0, 1), 2);
        check.is("properties now", house.look(0, 2), 3);
    }

    private static void recordsFollowTheMake() {
        FileHouse house = new FileHouse();
        Houses.file(house, 1, 0, 2, 1, 0, 1, 1, 5);
        Houses.make(house, 0b11, false, 3, 1, 0, 2);
        check.is("by the long mark", house.record(0, 0, 0), 1);
        check.is("its place", house.record(0, 0, 2), 5);
        Houses.make(house, 0b11, true, 0, 1);
        check.is("the sum is wrong", house.bends(0, 1), 2);
        check.is("the make stays", house.know(0), 0);
        Houses.make(house, 0b11, false, 0, 1);
        check.is("the make stays by alike", house.know(0), 0);
        check.is("the other would do as well", house.bends(0, 2), 0);
    }

    private static void mostRecords() {
        FileHouse house = new FileHouse();
        Houses.make(house, 4095, false, 3, 1);
        Houses.make(house, 0, false, 3, 1);
        int[] bytes = new int[60];
        bytes[0] = 1;
        Houses.file(house, bytes);
        check.is("a tag is left over", house.bends(0, 0), 1);
        check.is("29 records", house.look(0, 1), 29);
        check.is("the last one's place", house.record(0, 28, 2), 59);
        check.is("no thirtieth", house.record(0, 29, 0), -1);
        check.is("30 bends", house.bends(0, 1), 30);
    }

    private static void recordsAreOfTheFileAsked() {
        FileHouse house = new FileHouse();
        Houses.make(house, 3, false, 0, 1);
        Houses.file(house, 1, 0, 1, 5);
        Houses.file(house, 1, 1, 0, 1, 0);
        Houses.file(house, 2, 1, 0);
        for (int round = 0; round < 2; round++) {
            check.is("tag in the first", house.record(0, 0, 0), 0);
            check.is("length in the first", house.record(0, 0, 1), 1);
            check.is("no second in the first", house.record(0, 1, 0), -1);
            check.is("tag in the second", house.record(1, 1, 0), 1);
            check.is("place in the second", house.record(1, 1, 2), 5);
            check.is("none in the third", house.record(2, 0, 0), -1);
        }
    }

    private static void wrongArguments() {
        FileHouse house = new FileHouse();
        Houses.make(house, 1, false, 0, 1);
        Houses.file(house, 1, 0, 0);
        Houses.file(house, 2);
        int[] none = {-1, 2, 40, Integer.MIN_VALUE, Integer.MAX_VALUE};
        for (int f : none) {
            check.is("bends of file " + f, house.bends(f, 0), -1);
            check.is("know of file " + f, house.know(f), -1);
            check.is("record of file " + f, house.record(f, 0, 0), -1);
            check.is("look at file " + f, house.look(f, 0), -1);
            check.is("record " + f, house.record(0, f, 0), -1);
        }
        int[] noMake = {-1, 1, 12, Integer.MIN_VALUE, Integer.MAX_VALUE};
        for (int m : noMake) {
            check.is("bends by make " + m, house.bends(0, m), -1);
        }
        int[] noWhat = {-1, 3, Integer.MIN_VALUE, Integer.MAX_VALUE};
        for (int what : noWhat) {
            check.is("record what " + what, house.record(0, 0, what), -1);
        }
        check.is("without mark", house.bends(1, 0), -2);
        check.is("a file without make has no record", house.record(1, 0, 0), -1);
        check.is("nor a number of them", house.look(1, 1), 0);
        check.is("files without make", house.count(6), 1);
    }
}
