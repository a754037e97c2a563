import java.util.ArrayList;
import java.util.Arrays;
import java.util.List;
import java.util.Random;

/** All promises: long runs of calls, held against the slow and literal ModelHouse. The seeds are fixed. */
public final class ModelTest {
    private static final int RUNS = 400;
    private static final int CALLS = 512;
    private static final int[] WILD = {-2, -1, 8, 12, 24, 40, 60, 61, 99, 1000, 4096, 10000,
        Integer.MIN_VALUE, Integer.MAX_VALUE};

    private final Check check;
    private final Random random;
    private final String run;
    private final FileHouse house = new FileHouse();
    private final ModelHouse model = new ModelHouse();
    private final int markBytes;
    private final int mostMakes;
    private final int mostPrice;
    private final int yearStep;
    private final List<Integer> turnerFroms = new ArrayList<>();
    private int calls = 0;

    private ModelTest(Check check, int seed) {
        this.check = check;
        random = new Random(seed);
        run = "run " + seed + ": ";
        markBytes = 1 + random.nextInt(3);
        mostMakes = 3 + random.nextInt(10);
        mostPrice = random.nextBoolean() ? 3 : 10000;
        yearStep = random.nextBoolean() ? 3 : 1 + random.nextInt(60);
    }

    public static void main(String[] args) {
        Check check = new Check("ModelTest");
        for (int seed = 0; seed < RUNS; seed++) {
            ModelTest test = new ModelTest(check, seed);
            while (test.calls < CALLS) {
                test.act();
            }
        }
        check.end();
    }

    private void same(String call, long got, long due) {
        calls++;
        check.is(run + "call " + calls + ", " + call, got, due);
    }

    private void same(String call, boolean got, boolean due) {
        same(call, got ? 1 : 0, due ? 1 : 0);
    }

    /** Mostly a number below the bound, at times one that is no such number. */
    private int below(int bound) {
        return random.nextInt(25) == 0 ? WILD[random.nextInt(WILD.length)] : random.nextInt(Math.max(bound, 1));
    }

    private int someFile() {
        return below(model.count(1));
    }

    private int someMake() {
        return below(model.count(0));
    }

    private int someSet() {
        return random.nextInt(4) == 0 ? below(4096) : below(8);
    }

    private void feed(int... bytes) {
        for (int start = 0; start < bytes.length; start += 20) {
            int[] words = new int[5];
            for (int i = 0; i < 20; i++) {
                int value = start + i < bytes.length ? bytes[start + i] : random.nextInt(256);
                words[i / 4] = words[i / 4] << 8 | value;
            }
            same("feed", house.feed(words[0], words[1], words[2], words[3], words[4]), model.feed(words));
        }
    }

    private void act() {
        int chance = random.nextInt(100);
        if (chance < 8) {
            if (model.count(0) < mostMakes || random.nextInt(10) == 0) {
                addMake();
            }
        } else if (chance < 16) {
            addFile();
        } else if (chance < 40) {
            tell();
        } else {
            ask();
        }
    }

    private void addMake() {
        int n = random.nextInt(10) == 0 ? below(6) : 1 + random.nextInt(2);
        int[] mark = new int[4];
        for (int i = 0; i < 4; i++) {
            mark[i] = random.nextInt(markBytes);
        }
        if (random.nextInt(10) != 0) {
            feed(mark);
        }
        int set = random.nextBoolean() ? 7 : someSet();
        boolean sum = random.nextInt(3) == 0;
        int bends = below(4);
        same("make(" + n + ", " + set + ", " + sum + ", " + bends + ")", house.make(n, set, sum, bends),
                model.make(n, set, sum, bends));
    }

    private void addFile() {
        int[] bytes = new int[60];
        int n = 1 + random.nextInt(random.nextInt(4) == 0 ? 60 : 15);
        int markLength = 1 + random.nextInt(2);
        int place = 0;
        while (place < n) {
            if (place < markLength) {
                bytes[place++] = random.nextInt(markBytes);
            } else {
                bytes[place++] = random.nextInt(12) == 0 ? random.nextInt(256) : random.nextInt(3);
                int length = random.nextInt(20) == 0 ? random.nextInt(256) : random.nextInt(3);
                if (place < n) {
                    bytes[place++] = length;
                }
                for (int i = 0; i < length && place < n; i++) {
                    bytes[place++] = random.nextInt(2);
                }
            }
        }
        if (random.nextInt(3) == 0 && n > 1) {
            bytes[n - 1] = 0;
            for (int i = 0; i < n - 1; i++) {
                bytes[n - 1] = bytes[n - 1] + bytes[i] & 255;
            }
        }
        feed(Arrays.copyOf(bytes, n));
        int taken = random.nextInt(20) == 0 ? below(62) : n;
        same("file(" + taken + ")", house.file(taken), model.file(taken));
    }

    private void tell() {
        int a = someFile();
        int m = below(8);
        switch (random.nextInt(6)) {
            case 0 -> {
                int set = someSet();
                same("must(" + a + ", " + set + ")", house.must(a, set), model.must(a, set));
            }
            case 1 -> {
                int surely = below(1000);
                int maybe = random.nextInt(10) == 0 ? below(1000) : (int) Math.min(999L, surely + (long) below(100));
                same("machine(" + m + ", " + surely + ", " + maybe + ")", house.machine(m, surely, maybe),
                        model.machine(m, surely, maybe));
            }
            case 2 -> {
                int make = someMake();
                same("reader(" + make + ", " + m + ")", house.reader(make, m), model.reader(make, m));
            }
            case 3 -> {
                int from = someMake();
                int to = someMake();
                int drops = random.nextInt(3) == 0 ? someSet() : 0;
                int price = below(mostPrice);
                int number = model.turner(from, to, drops, price, m);
                same("turner(" + from + ", " + to + ", " + drops + ", " + price + ", " + m + ")",
                        house.turner(from, to, drops, price, m), number);
                if (number >= 0) {
                    turnerFroms.add(from);
                }
            }
            case 4 -> {
                int y = random.nextInt(6) == 0 ? below(1000) % 300 : model.count(4) + random.nextInt(yearStep);
                same("year(" + y + ")", house.year(y), model.year(y));
            }
            default -> turnFile(a);
        }
    }

    private void turnFile(int f) {
        int t = below(turnerFroms.size());
        // Most FILES are of another MAKE than a TURNER's: look for one that is not.
        for (int more = 0; more < 20 && random.nextInt(10) != 0; more++) {
            if (t >= 0 && t < turnerFroms.size() && turnerFroms.get(t) == model.know(f)) {
                break;
            }
            t = random.nextInt(Math.max(turnerFroms.size(), 1));
        }
        if (model.count(1) < 40 || random.nextInt(4) == 0) {
            same("turn(" + f + ", " + t + ")", house.turn(f, t), model.turn(f, t));
        }
    }

    private void ask() {
        int f = someFile();
        int m = someMake();
        int i = below(5);
        int y = random.nextInt(10) == 0 ? below(1000) : Math.min(999, model.count(4) + random.nextInt(100));
        boolean surely = random.nextBoolean();
        switch (random.nextInt(11)) {
            case 0 -> same("bends(" + f + ", " + m + ")", house.bends(f, m), model.bends(f, m));
            case 1 -> same("know(" + f + ")", house.know(f), model.know(f));
            case 2 -> {
                int what = below(3);
                same("record(" + f + ", " + i + ", " + what + ")", house.record(f, i, what), model.record(f, i, what));
            }
            case 3 -> {
                int g = random.nextBoolean() && model.look(f, 4) >= 0 ? model.look(f, 4) : someFile();
                same("kept(" + f + ", " + g + ")", house.kept(f, g), model.kept(f, g));
            }
            case 4, 5 -> {
                int price = model.road(f, m);
                same("road(" + f + ", " + m + ")", house.road(f, m), price);
                for (int step = 0; step <= 4 && price > 0; step++) {
                    same("step(" + step + ")", house.step(step), model.step(step));
                }
            }
            case 6 -> same("step(" + i + ")", house.step(i), model.step(i));
            case 7 -> same("last(" + f + ", " + surely + ")", house.last(f, surely), model.last(f, surely));
            case 8 -> {
                same("plan(" + y + ")", house.plan(y), model.plan(y));
                same("goal(" + y + ", " + f + ")", house.goal(y, f), model.goal(y, f));
            }
            case 9 -> {
                int what = random.nextBoolean() ? below(6) : 100 + random.nextInt(20);
                same("look(" + f + ", " + what + ")", house.look(f, what), model.look(f, what));
            }
            default -> {
                int what = below(8);
                same("count(" + what + ")", house.count(what), model.count(what));
            }
        }
    }
}
