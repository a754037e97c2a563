/** All promises: a call that is refused, or that only asks, changes nothing that any call can see. */
public final class RefusedTest {
    private static final Check check = new Check("RefusedTest");

    public static void main(String[] args) {
        check.hold("Terms", "A call that is refused (NONE, false) changes nothing but the tape, where it is told.");
        tapeCalls();
        tellingCalls();
        turnerCalls();
        turnCalls();
        askingCalls();
        answersToo();
        newHouse();
        fullHouse();
        check.end();
    }

    private static int asNumber(boolean answer) {
        return answer ? 1 : 0;
    }

    /**
     * MAKES 0 to 2 (the third with a SUM); FILES: 0 of MAKE 0, 1 of MAKE 1, 2 of none, 3 too long to be
     * turned, 4 from FILE 0. It is YEAR 10, MACHINE 5 is dead, a ROAD of two TURNERS was told, and the
     * tape has twenty BYTES.
     */
    private static FileHouse smallHouse() {
        FileHouse house = new FileHouse();
        Houses.make(house, 0b111, false, 0, 1);
        Houses.make(house, 0b110, false, 1, 2, 2);
        Houses.make(house, 0b011, true, 2, 3);
        Houses.file(house, 1, 0, 1, 7, 1, 0, 2, 0);
        Houses.file(house, 2, 2, 1, 1, 9);
        Houses.file(house, 9, 9);
        int[] longest = new int[60];
        longest[0] = 1;
        longest[1] = 1;
        longest[2] = 57;
        Houses.file(house, longest);
        house.turner(0, 1, 0, 5, 1);
        house.turner(1, 2, 0b100, 6, 2);
        house.turner(2, 0, 0, 7, 5);
        house.turn(0, 0);
        house.must(0, 0b010);
        house.must(1, 0b010);
        house.machine(1, 100, 200);
        house.machine(2, 300, 400);
        house.machine(5, 9, 500);
        house.reader(0, 1);
        house.reader(2, 3);
        house.year(10);
        house.road(0, 2);
        house.feed(0x01020304, 0x05060708, 0x090a0b0c, 0x0d0e0f10, 0x11121314);
        return house;
    }

    /** As much of all as there can be. */
    private static FileHouse filledHouse() {
        FileHouse house = Houses.withPlainMakes(12);
        for (int f = 0; f < 40; f++) {
            Houses.file(house, 10 + f % 3, f % 12, 0);
        }
        for (int i = 0; i < 24; i++) {
            house.reader(i / 8, i % 8);
            house.turner(i % 5, i % 5 + 1, 0, i, i % 8);
        }
        house.year(999);
        house.road(0, 3);
        for (int i = 1; i <= 4; i++) {
            house.feed(i, i, i, i, i);
        }
        return house;
    }

    private static void refused(String what, Twins.Call call) {
        Twins.changesNothing(check, what, RefusedTest::smallHouse, call, -1);
    }

    private static void refusedFalse(String what, Twins.Call call) {
        Twins.changesNothing(check, what, RefusedTest::smallHouse, call, 0);
    }

    private static void answered(String what, Twins.Call call, long due) {
        Twins.changesNothing(check, what, RefusedTest::smallHouse, call, due);
    }

    private static void refusedWhenFull(String what, Twins.Call call) {
        Twins.changesNothing(check, what, RefusedTest::filledHouse, call, -1);
    }

    private static FileHouse houseOfFullTape() {
        FileHouse house = smallHouse();
        for (int i = 1; i <= 3; i++) {
            house.feed(i, i, i, i, i);
        }
        return house;
    }

    private static void tapeCalls() {
        Twins.changesNothing(check, "promise 2: feed beyond 80", RefusedTest::houseOfFullTape,
                house -> house.feed(-1, -1, -1, -1, -1), -1);
        Twins.changesNothing(check, "promise 4: file of 61 of 80", RefusedTest::houseOfFullTape,
                house -> house.file(61), -1);
        refused("promise 3: make of 0", house -> house.make(0, 7, true, 1));
        refused("promise 3: make of 5", house -> house.make(5, 7, true, 1));
        refused("promise 3: make with properties -1", house -> house.make(1, -1, true, 1));
        refused("promise 3: make with properties 4096", house -> house.make(1, 4096, true, 1));
        refused("promise 3: make with bends -1", house -> house.make(1, 7, true, -1));
        refused("promise 3: make with bends 4", house -> house.make(1, 7, true, 4));
        refused("promise 4: file of 0", house -> house.file(0));
        refused("promise 4: file of 21 of 20", house -> house.file(21));
        refused("promise 4: file of 61", house -> house.file(61));
    }

    private static void tellingCalls() {
        refusedFalse("promise 5: must of file -1", house -> asNumber(house.must(-1, 1)));
        refusedFalse("promise 5: must of file 5", house -> asNumber(house.must(5, 1)));
        refusedFalse("promise 5: must -1", house -> asNumber(house.must(0, -1)));
        refusedFalse("promise 5: must 4096", house -> asNumber(house.must(0, 4096)));
        refusedFalse("promise 6: machine -1", house -> asNumber(house.machine(-1, 1, 1)));
        refusedFalse("promise 6: machine 8", house -> asNumber(house.machine(8, 1, 1)));
        refusedFalse("promise 6: surely to -1", house -> asNumber(house.machine(1, -1, 50)));
        refusedFalse("promise 6: maybe to 1000", house -> asNumber(house.machine(1, 50, 1000)));
        refusedFalse("promise 6: maybe ahead of surely", house -> asNumber(house.machine(1, 50, 49)));
        refusedFalse("promise 7: reader of make -1", house -> asNumber(house.reader(-1, 0)));
        refusedFalse("promise 7: reader of make 3", house -> asNumber(house.reader(3, 0)));
        refusedFalse("promise 7: reader on machine -1", house -> asNumber(house.reader(0, -1)));
        refusedFalse("promise 7: reader on machine 8", house -> asNumber(house.reader(0, 8)));
        refusedFalse("promise 7: a reader that was told", house -> asNumber(house.reader(0, 1)));
        refusedFalse("promise 9: year -1", house -> asNumber(house.year(-1)));
        refusedFalse("promise 9: year 9 in year 10", house -> asNumber(house.year(9)));
        refusedFalse("promise 9: year 1000", house -> asNumber(house.year(1000)));
    }

    private static void turnerCalls() {
        refused("promise 8: turner from -1", house -> house.turner(-1, 1, 0, 0, 0));
        refused("promise 8: turner from 3", house -> house.turner(3, 1, 0, 0, 0));
        refused("promise 8: turner to -1", house -> house.turner(0, -1, 0, 0, 0));
        refused("promise 8: turner to 3", house -> house.turner(0, 3, 0, 0, 0));
        refused("promise 8: turner to the same", house -> house.turner(1, 1, 0, 0, 0));
        refused("promise 8: turner drops -1", house -> house.turner(0, 1, -1, 0, 0));
        refused("promise 8: turner drops 4096", house -> house.turner(0, 1, 4096, 0, 0));
        refused("promise 8: turner at -1", house -> house.turner(0, 1, 0, -1, 0));
        refused("promise 8: turner at 10000", house -> house.turner(0, 1, 0, 10000, 0));
        refused("promise 8: turner on -1", house -> house.turner(0, 1, 0, 0, -1));
        refused("promise 8: turner on 8", house -> house.turner(0, 1, 0, 0, 8));
    }

    private static void turnCalls() {
        refused("promise 13: turn of file -1", house -> house.turn(-1, 0));
        refused("promise 13: turn of file 5", house -> house.turn(5, 0));
        refused("promise 13: turn by -1", house -> house.turn(1, -1));
        refused("promise 13: turn by 3", house -> house.turn(1, 3));
        refused("promise 13: turn of another make", house -> house.turn(1, 0));
        refused("promise 13: turn of no make", house -> house.turn(2, 0));
        refused("promise 13: turn to 61 bytes", house -> house.turn(3, 0));
        Twins.changesNothing(check, "promise 13: turn on a machine that is dead", RefusedTest::houseOfLosses,
                house -> house.turn(1, 1), -1);
    }

    /** A small house where MACHINE 2 is dead and FILE 0 may not lose what every TURNER loses. */
    private static FileHouse houseOfLosses() {
        FileHouse house = smallHouse();
        house.machine(2, 9, 999);
        house.must(0, 0b001);
        return house;
    }

    private static void askingCalls() {
        refused("promise 10: bends of file 5", house -> house.bends(5, 0));
        refused("promise 10: bends by make 3", house -> house.bends(0, 3));
        refused("promise 11: know of file 5", house -> house.know(5));
        refused("promise 12: record 3", house -> house.record(0, 3, 0));
        refused("promise 12: record what 3", house -> house.record(0, 0, 3));
        refused("promise 14: kept with file 5", house -> house.kept(0, 5));
        refused("promise 15: road to make 3", house -> house.road(0, 3));
        refused("promise 15: road of a file without make", house -> house.road(2, 0));
        Twins.changesNothing(check, "promise 15: road that does not keep", RefusedTest::houseOfLosses,
                house -> house.road(0, 1), -1);
        Twins.changesNothing(check, "promise 18: plan without a road", RefusedTest::houseOfLosses,
                house -> house.plan(10), -2);
        refused("promise 16: step 2", house -> house.step(2));
        refused("promise 17: last of a file without make", house -> house.last(2, false));
        refused("promise 18: plan to year 9", house -> house.plan(9));
        refused("promise 18: plan to year 1000", house -> house.plan(1000));
        refused("promise 19: goal to year 9", house -> house.goal(9, 1));
        refused("promise 19: goal of file 0, that another comes from", house -> house.goal(10, 0));
        refused("promise 20: look 6", house -> house.look(0, 6));
        refused("promise 21: count 8", house -> house.count(8));
    }

    private static void answersToo() {
        answered("promise 10: bends", house -> house.bends(0, 0), 0);
        answered("promise 10: bends by another mark", house -> house.bends(0, 1), -2);
        answered("promise 11: know", house -> house.know(1), 1);
        answered("promise 12: record", house -> house.record(0, 0, 2), 3);
        answered("promise 14: kept", house -> house.kept(0, 4), 6);
        answered("promise 16: step", house -> house.step(1), 1);
        answered("promise 17: last", house -> house.last(0, true), 100);
        answered("promise 18: plan", house -> house.plan(100), 12);
        answered("promise 19: goal", house -> house.goal(100, 3), 0);
        answered("promise 20: look", house -> house.look(0, 103), 7);
        answered("promise 21: count", house -> house.count(7), 1);
    }

    private static void newHouse() {
        Twins.Builder builder = FileHouse::new;
        Twins.changesNothing(check, "promise 3: make of the empty tape", builder, house -> house.make(1, 7, true, 1), -1);
        Twins.changesNothing(check, "promise 4: file of the empty tape", builder, house -> house.file(1), -1);
        Twins.changesNothing(check, "promise 5: must", builder, house -> asNumber(house.must(0, 1)), 0);
        Twins.changesNothing(check, "promise 7: reader", builder, house -> asNumber(house.reader(0, 0)), 0);
        Twins.changesNothing(check, "promise 8: turner", builder, house -> house.turner(0, 1, 0, 0, 0), -1);
        Twins.changesNothing(check, "promise 13: turn", builder, house -> house.turn(0, 0), -1);
        Twins.changesNothing(check, "promise 15: road", builder, house -> house.road(0, 0), -1);
        Twins.changesNothing(check, "promise 18: plan", builder, house -> house.plan(0), 0);
    }

    private static void fullHouse() {
        refusedWhenFull("promise 2: feed", house -> house.feed(-1, -1, -1, -1, -1));
        refusedWhenFull("promise 3: make", house -> house.make(1, 0, false, 0));
        refusedWhenFull("promise 4: file", house -> house.file(1));
        Twins.changesNothing(check, "promise 7: reader", RefusedTest::filledHouse,
                house -> asNumber(house.reader(3, 0)), 0);
        refusedWhenFull("promise 8: turner", house -> house.turner(0, 5, 0, 0, 0));
        refusedWhenFull("promise 13: turn", house -> house.turn(0, 0));
    }
}
