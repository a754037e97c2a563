/** Promises 15, 16, 18 and 19: road, step, plan, goal. */
public final class RoadTest {
    private static final Check check = new Check("RoadTest");

    public static void main(String[] args) {
        leastPriceWins();
        fewestTurnersWin();
        leastRowWins();
        leastRowOfFour();
        atMostFourTurners();
        shortDearRoadsServeWhereLongOnesCannot();
        mustIsKeptByEveryMakeAndTurner();
        mustOfWhatTheFileHasNotIsFree();
        machinesLiveSurely();
        roadRefuses();
        stepTellsTheLastRoad();
        planAddsUp();
        planTakesFilesThatNoOneComesFrom();
        planLooksAtTwoYears();
        goalTies();
        goalOfOneFileWhereAnotherHasNone();
        planRefuses();
        dearestRoad();
        check.end();
    }

    private static void stepsAre(String what, FileHouse house, int... due) {
        for (int i = 0; i < due.length; i++) {
            check.is(what + ": step " + i, house.step(i), due[i]);
        }
        check.is(what + ": no more steps", house.step(due.length), -1);
    }

    private static void leastPriceWins() {
        FileHouse house = Houses.withPlainMakes(3);
        Houses.file(house, 10);
        house.turner(0, 2, 0, 30, 0);
        check.is("the only road", house.road(0, 2), 30);
        stepsAre("the only road", house, 0);
        house.turner(0, 1, 0, 10, 0);
        house.turner(1, 2, 0, 19, 0);
        check.is("two are cheaper", house.road(0, 2), 29);
        stepsAre("two are cheaper", house, 1, 2);
        check.is("to its own make", house.road(0, 0), 0);
        stepsAre("to its own make", house);
        Houses.file(house, 12);
        check.is("no way back", house.road(1, 0), -1);
        house.turner(2, 0, 0, 3, 0);
        check.is("a way back", house.road(1, 0), 3);
        check.is("and on", house.road(1, 1), 13);
        stepsAre("and on", house, 3, 1);
    }

    private static void fewestTurnersWin() {
        FileHouse house = Houses.withPlainMakes(3);
        Houses.file(house, 10);
        house.turner(0, 1, 0, 0, 0);
        house.turner(1, 2, 0, 7, 0);
        check.is("two", house.road(0, 2), 7);
        stepsAre("two", house, 0, 1);
        house.turner(0, 2, 0, 7, 0);
        check.is("one of like price", house.road(0, 2), 7);
        stepsAre("one of like price", house, 2);
    }

    private static void leastRowWins() {
        FileHouse house = Houses.withPlainMakes(4);
        Houses.file(house, 10);
        house.turner(2, 3, 0, 5, 0);
        house.turner(0, 1, 0, 5, 0);
        house.turner(0, 2, 0, 5, 0);
        house.turner(1, 3, 0, 5, 0);
        house.turner(1, 3, 0, 5, 0);
        check.is("price", house.road(0, 3), 10);
        stepsAre("first turner first", house, 1, 3);
    }

    private static void leastRowOfFour() {
        FileHouse house = Houses.withPlainMakes(5);
        Houses.file(house, 10);
        for (int i = 0; i < 2; i++) {
            for (int m = 3; m >= 0; m--) {
                house.turner(m, m + 1, 0, 1, 0);
            }
        }
        check.is("price of four", house.road(0, 4), 4);
        stepsAre("four", house, 3, 2, 1, 0);
        for (int t = 8; t < 24; t++) {
            house.turner(t % 4, t % 4 + 1, 0, t >= 20 ? 0 : 1, 0);
        }
        check.is("price by the last ones", house.road(0, 4), 0);
        stepsAre("the last ones", house, 20, 21, 22, 23);
    }

    private static void atMostFourTurners() {
        FileHouse house = Houses.withPlainMakes(6);
        Houses.file(house, 10);
        for (int m = 0; m < 5; m++) {
            house.turner(m, m + 1, 0, 1, 0);
        }
        check.is("four", house.road(0, 4), 4);
        check.is("five are too many", house.road(0, 5), -1);
        stepsAre("the last one told", house, 0, 1, 2, 3);
    }

    private static void shortDearRoadsServeWhereLongOnesCannot() {
        FileHouse house = Houses.withPlainMakes(6);
        Houses.file(house, 10);
        house.turner(0, 1, 0, 0, 0);
        house.turner(1, 2, 0, 0, 0);
        house.turner(2, 3, 0, 0, 0);
        house.turner(3, 4, 0, 0, 0);
        house.turner(4, 5, 0, 0, 0);
        house.turner(0, 3, 0, 50, 0);
        house.turner(1, 3, 0, 20, 0);
        check.is("the cheap one is too long", house.road(0, 5), 20);
        stepsAre("the cheap one is too long", house, 0, 6, 3, 4);
        check.is("here it serves", house.road(0, 4), 0);
    }

    private static void mustIsKeptByEveryMakeAndTurner() {
        FileHouse house = new FileHouse();
        Houses.make(house, 0b111, false, 0, 1);
        Houses.make(house, 0b101, false, 0, 2);
        Houses.make(house, 0b111, false, 0, 3);
        Houses.file(house, 1, 0, 0, 1, 0, 2, 0);
        house.turner(0, 1, 0, 1, 0);
        house.turner(1, 2, 0b001, 1, 0);
        house.turner(0, 2, 0b100, 10, 0);
        int[] due = {2, 10, 10, 10, 2, -1, -1, -1};
        for (int set = 0; set < due.length; set++) {
            house.must(0, set);
            check.is("road that keeps " + set, house.road(0, 2), due[set]);
        }
        house.must(0, 7);
        check.is("all are kept where nothing is done", house.road(0, 0), 0);
        house.must(0, 0b010);
        check.is("the goal's own properties count", house.road(0, 1), -1);
    }

    private static void mustOfWhatTheFileHasNotIsFree() {
        FileHouse house = new FileHouse();
        Houses.make(house, 0b11, false, 0, 1);
        Houses.make(house, 0b01, false, 0, 2);
        Houses.file(house, 1, 0, 0);
        house.turner(0, 1, 0b10, 4, 0);
        house.must(0, 0b1111_1111_1110);
        check.is("it has none of these", house.road(0, 1), 4);
        house.must(0, 1);
        check.is("this one goes along", house.road(0, 1), 4);
    }

    private static void machinesLiveSurely() {
        FileHouse house = Houses.withPlainMakes(2);
        Houses.file(house, 10);
        house.turner(0, 1, 0, 1, 3);
        house.turner(0, 1, 0, 2, 4);
        house.machine(3, 10, 999);
        house.year(10);
        check.is("in its last year", house.road(0, 1), 1);
        house.year(11);
        check.is("then by the other one", house.road(0, 1), 2);
        house.machine(4, 10, 999);
        check.is("then by none", house.road(0, 1), -1);
        check.is("but as it is", house.road(0, 0), 0);
    }

    private static void roadRefuses() {
        FileHouse house = Houses.withPlainMakes(2);
        Houses.file(house, 10);
        Houses.file(house, 9);
        check.is("no turner", house.road(0, 1), -1);
        int[] none = {-1, 2, 12, 40, Integer.MIN_VALUE, Integer.MAX_VALUE};
        for (int n : none) {
            check.is("road of file " + n, house.road(n, 0), -1);
            check.is("road to make " + n, house.road(0, n), -1);
        }
        check.is("road of a file without make", house.road(1, 0), -1);
        check.is("nor to another", house.road(1, 1), -1);
    }

    private static void stepTellsTheLastRoad() {
        FileHouse house = Houses.withPlainMakes(3);
        Houses.file(house, 10);
        house.turner(1, 2, 0, 1, 0);
        house.turner(0, 1, 0, 1, 0);
        stepsAre("none told", house);
        house.road(0, 2);
        stepsAre("told", house, 1, 0);
        house.road(0, 7);
        house.road(5, 0);
        house.reader(0, 0);
        house.plan(0);
        house.goal(0, 0);
        house.machine(0, 0, 0);
        house.year(1);
        check.is("no road now", house.road(0, 2), -1);
        stepsAre("still told", house, 1, 0);
        int[] none = {-1, 2, 4, Integer.MIN_VALUE, Integer.MAX_VALUE};
        for (int i : none) {
            check.is("step " + i, house.step(i), -1);
        }
        house.road(0, 0);
        stepsAre("an empty road", house);
    }

    private static void planAddsUp() {
        FileHouse house = Houses.withPlainMakes(3);
        Houses.file(house, 10);
        Houses.file(house, 11);
        Houses.file(house, 12);
        Houses.file(house, 9);
        check.is("no readers", house.plan(0), -2);
        house.reader(2, 0);
        check.is("no turners", house.plan(0), -2);
        house.turner(0, 1, 0, 5, 0);
        house.turner(1, 2, 0, 7, 0);
        check.is("12 and 7 and nothing", house.plan(0), 19);
        for (int f = 0; f < 3; f++) {
            check.is("goal of " + f, house.goal(0, f), 2);
        }
        check.is("a file without make goes nowhere", house.goal(0, 3), -1);
        house.reader(1, 0);
        check.is("5 and twice nothing", house.plan(0), 5);
        check.is("goal of 0", house.goal(0, 0), 1);
        check.is("goal of 1", house.goal(0, 1), 1);
        check.is("goal of 2", house.goal(0, 2), 2);
    }

    private static void planTakesFilesThatNoOneComesFrom() {
        FileHouse house = Houses.withPlainMakes(2);
        Houses.file(house, 10);
        house.turner(0, 1, 0, 100, 0);
        house.reader(1, 0);
        check.is("ahead of the turn", house.plan(0), 100);
        house.turn(0, 0);
        check.is("behind it", house.plan(0), 0);
        check.is("goal of the old one", house.goal(0, 0), -1);
        check.is("goal of the new one", house.goal(0, 1), 1);
    }

    private static void planLooksAtTwoYears() {
        FileHouse house = Houses.withPlainMakes(3);
        Houses.file(house, 10);
        house.turner(0, 1, 0, 1, 1);
        house.turner(0, 2, 0, 9, 1);
        house.reader(1, 2);
        house.reader(2, 3);
        house.machine(1, 5, 999);
        house.machine(2, 20, 999);
        house.machine(3, 30, 999);
        house.year(5);
        check.is("to 20", house.plan(20), 1);
        check.is("goal to 20", house.goal(20, 0), 1);
        check.is("to 21", house.plan(21), 9);
        check.is("goal to 21", house.goal(21, 0), 2);
        check.is("to 30", house.plan(30), 9);
        check.is("to 31", house.plan(31), -2);
        check.is("goal to 31", house.goal(31, 0), -1);
        house.year(6);
        check.is("the turners are dead", house.plan(20), -2);
        check.is("no goal either", house.goal(20, 0), -1);
    }

    private static void goalTies() {
        FileHouse house = Houses.withPlainMakes(5);
        Houses.file(house, 10);
        house.turner(0, 4, 0, 3, 0);
        house.turner(0, 3, 0, 3, 0);
        house.turner(0, 1, 0, 1, 0);
        house.turner(1, 2, 0, 2, 0);
        house.reader(2, 0);
        check.is("two turners", house.goal(0, 0), 2);
        house.reader(3, 0);
        check.is("fewest turners", house.goal(0, 0), 3);
        house.reader(4, 0);
        check.is("least row, not lowest make", house.goal(0, 0), 4);
        check.is("its price", house.plan(0), 3);
        house.reader(0, 0);
        check.is("as it is", house.goal(0, 0), 0);
        check.is("for nothing", house.plan(0), 0);
    }

    private static void goalOfOneFileWhereAnotherHasNone() {
        FileHouse house = Houses.withPlainMakes(2);
        Houses.file(house, 10);
        Houses.file(house, 11);
        house.reader(1, 0);
        check.is("one has no road", house.plan(0), -2);
        check.is("the one without", house.goal(0, 0), -1);
        check.is("the one with", house.goal(0, 1), 1);
        house.must(1, 4095);
        check.is("must of what it has not", house.goal(0, 1), 1);
    }

    private static void planRefuses() {
        FileHouse house = Houses.withPlainMakes(1);
        Houses.file(house, 10);
        house.reader(0, 0);
        house.year(10);
        int[] noYear = {-1, 9, 1000, Integer.MIN_VALUE, Integer.MAX_VALUE};
        for (int y : noYear) {
            check.is("plan to " + y, house.plan(y), -1);
            check.is("goal to " + y, house.goal(y, 0), -1);
        }
        int[] noFile = {-1, 1, 40, Integer.MIN_VALUE, Integer.MAX_VALUE};
        for (int f : noFile) {
            check.is("goal of " + f, house.goal(10, f), -1);
        }
        check.is("plan to this year", house.plan(10), 0);
        check.is("plan to the last year", house.plan(999), 0);
        check.is("goal to this year", house.goal(10, 0), 0);
    }

    private static void dearestRoad() {
        FileHouse house = Houses.withPlainMakes(5);
        for (int f = 0; f < 40; f++) {
            Houses.file(house, 10);
        }
        for (int m = 0; m < 4; m++) {
            house.turner(m, m + 1, 0, 9999, 0);
        }
        house.reader(4, 0);
        check.is("one road", house.road(0, 4), 39996);
        check.is("all files", house.plan(0), 40 * 39996);
        check.is("goal of the last one", house.goal(0, 39), 4);
    }
}
