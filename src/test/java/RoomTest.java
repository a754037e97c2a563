import java.lang.management.ManagementFactory;

/** A run of the dearest calls must stay small: all calls of one run live in one room. */
public final class RoomTest {
    private static final Check check = new Check("RoomTest");
    private static final com.sun.management.ThreadMXBean threads =
            (com.sun.management.ThreadMXBean) ManagementFactory.getThreadMXBean();

    public static void main(String[] args) {
        FileHouse house = fullHouse();
        askAll(house);
        long before = threads.getCurrentThreadAllocatedBytes();
        for (int i = 0; i < 100; i++) {
            askAll(house);
        }
        long asked = threads.getCurrentThreadAllocatedBytes() - before;
        check.is("asking makes next to nothing (" + asked + " bytes)", asked < 20_000, true);
        before = threads.getCurrentThreadAllocatedBytes();
        for (int i = 0; i < 10; i++) {
            fullHouse();
        }
        long made = (threads.getCurrentThreadAllocatedBytes() - before) / 10;
        check.is("a full house is small (" + made + " bytes)", made < 100_000, true);
        check.end();
    }

    private static FileHouse fullHouse() {
        FileHouse house = Houses.withPlainMakes(12);
        int[] bytes = new int[59];
        bytes[0] = 10;
        for (int f = 0; f < 20; f++) {
            Houses.file(house, bytes);
        }
        for (int t = 0; t < 24; t++) {
            house.turner(t % 12, (t + 1 + t / 12) % 12, 0, t, t % 8);
            house.reader(4 + t % 8, t / 8);
        }
        for (int f = 0; f < 20; f++) {
            house.turn(f, 0);
        }
        check.is("full of files", house.count(1), 40);
        check.is("full of readers", house.count(2), 24);
        check.is("full of turners", house.count(3), 24);
        return house;
    }

    private static int askAll(FileHouse house) {
        return house.plan(999) + house.goal(0, 39) + house.road(0, 4) + house.step(0) + house.last(0, true)
                + house.count(6) + house.count(7) + house.kept(0, 20) + house.record(0, 28, 2) + house.look(0, 2)
                + house.bends(0, 0) + house.know(0);
    }
}
