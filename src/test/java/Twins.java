import java.util.ArrayList;
import java.util.List;

/**
 * Two houses built alike: one of them hears a call that changes nothing, and then both must answer all
 * else alike. They are built anew for each group of questions, as a house is good for 512 calls only
 * and some questions change it.
 */
final class Twins {
    private static final int MAKES = 12;
    private static final int MACHINES = 8;
    private static final int TURNERS = 24;
    private static final int FIRST_MACHINE_GROUP = 7;
    private static final int GROUPS = FIRST_MACHINE_GROUP + MACHINES;

    interface Builder {
        FileHouse build();
    }

    interface Call {
        long on(FileHouse house);
    }

    private final FileHouse house;
    private final List<Long> answers = new ArrayList<>();

    private Twins(FileHouse house) {
        this.house = house;
    }

    static void changesNothing(Check check, String what, Builder builder, Call call, long due) {
        for (int group = 0; group < GROUPS; group++) {
            FileHouse called = builder.build();
            check.is(what, call.on(called), due);
            List<Long> got = answersOf(called, group);
            check.is(what + " changes nothing in group " + group,
                    got.equals(answersOf(builder.build(), group)), true);
        }
    }

    private static List<Long> answersOf(FileHouse house, int group) {
        Twins twin = new Twins(house);
        switch (group) {
            case 0 -> twin.askCounts();
            case 1 -> twin.askFiles();
            case 2 -> twin.askBytes();
            case 3 -> twin.askRoads();
            case 4 -> twin.askPlans();
            case 5 -> twin.askTape();
            case 6 -> twin.askTurners();
            default -> twin.askMachine(group - FIRST_MACHINE_GROUP);
        }
        return twin.answers;
    }

    private void add(long answer) {
        answers.add(answer);
    }

    private void add(boolean answer) {
        add(answer ? 1 : 0);
    }

    private void askCounts() {
        for (int i = 0; i <= 4; i++) {
            add(house.step(i));
        }
        for (int what = 0; what <= 7; what++) {
            add(house.count(what));
        }
        for (int m = 0; m < MAKES; m++) {
            for (int machine = 0; machine < MACHINES; machine++) {
                add(house.reader(m, machine));
            }
        }
        add(house.turner(0, 1, 0, 0, 0));
        add(house.make(1, 0, false, 0));
        add(house.file(1));
    }

    private void askFiles() {
        for (int f = 0; f < house.count(1); f++) {
            for (int what = 1; what <= 5; what++) {
                add(house.look(f, what));
            }
            add(house.know(f));
        }
    }

    private void askBytes() {
        for (int f = 0; f < Math.min(house.count(1), 5); f++) {
            addBytes(f);
        }
    }

    private void addBytes(int f) {
        int length = house.look(f, 0);
        for (int i = 0; i < length; i++) {
            add(house.look(f, 100 + i));
        }
    }

    private void askRoads() {
        for (int f = 0; f < Math.min(house.count(1), 5); f++) {
            for (int m = 0; m < Math.min(house.count(0), 6); m++) {
                add(house.bends(f, m));
                add(house.road(f, m));
                for (int i = 0; i <= 3; i++) {
                    add(house.step(i));
                }
            }
        }
    }

    private void askPlans() {
        for (int f = 0; f < Math.min(house.count(1), 5); f++) {
            add(house.last(f, true));
            add(house.last(f, false));
            for (int y = house.count(4); y < 1000; y += 111) {
                add(house.plan(y));
                add(house.goal(y, f));
            }
        }
    }

    /** What stands on the tape is seen by what is made of it. */
    private void askTape() {
        int n = Math.min(house.count(5), 60);
        int f = house.file(n);
        add(f);
        if (f == FileHouse.NONE) {
            int m = house.make(4, 4095, false, 3);
            add(m);
            add(house.bends(0, m));
        }
        addBytes(f);
        add(house.count(5));
    }

    private void askTurners() {
        for (int t = 0; t < TURNERS; t++) {
            for (int f = 0; f < 2; f++) {
                int turned = house.turn(f, t);
                add(turned);
                addBytes(turned);
            }
        }
    }

    /** All other MACHINES die, so that the years of this one are seen. */
    private void askMachine(int machine) {
        for (int m = 0; m < MACHINES; m++) {
            if (m != machine) {
                add(house.machine(m, 0, 0));
            }
        }
        add(house.reader(house.know(0), machine));
        add(house.last(0, true));
        add(house.last(0, false));
    }
}
