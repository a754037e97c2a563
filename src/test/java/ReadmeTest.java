import java.io.IOException;
import java.nio.file.Files;
import java.nio.file.Path;
import java.util.Set;
import java.util.TreeSet;

/** What README.md says of the class: each line of its example stands there, and answers what it says. */
public final class ReadmeTest {
    private static final Check check = new Check("ReadmeTest");
    private static String readme = "";

    public static void main(String[] args) throws IOException {
        readme = Files.readString(Path.of("README.md"));
        example();
        namesEveryTest();
        check.end();
    }

    private static void says(String line, String remark, long got, long due) {
        boolean stands = readme.lines().anyMatch(one -> one.startsWith(line) && one.contains("// " + remark));
        check.is("README.md says " + line + " // " + remark, stands, true);
        check.is(line, got, due);
    }

    private static void says(String line, String remark, boolean got) {
        says(line, remark, got ? 1 : 0, 1);
    }

    private static void example() {
        FileHouse house = new FileHouse();
        says("house.feed(0x41000000, 0, 0, 0, 0);", "20:", house.feed(0x41000000, 0, 0, 0, 0), 20);
        int plain = house.make(1, 0b111, false, 0);
        says("int plain = house.make(1, 0b111, false, 0);", "0:", plain, 0);
        says("house.feed(0x43000000, 0, 0, 0, 0);", "20:", house.feed(0x43000000, 0, 0, 0, 0), 20);
        int small = house.make(1, 0b110, false, 3);
        says("int small = house.make(1, 0b110, false, 3);", "1:", small, 1);
        says("house.feed(0x41010107, 0, 0, 0, 0);", "20:", house.feed(0x41010107, 0, 0, 0, 0), 20);
        int letter = house.file(4);
        says("int letter = house.file(4);", "0:", letter, 0);
        says("house.know(letter);", "0,", house.know(letter), plain);
        says("house.turner(plain, small, 0, 50, 0);", "0:", house.turner(plain, small, 0, 50, 0), 0);
        says("house.reader(small, 3);", "true:", house.reader(small, 3));
        says("house.machine(3, 50, 80);", "true:", house.machine(3, 50, 80));
        says("house.must(letter, 0b010);", "true:", house.must(letter, 0b010));
        says("house.road(letter, small);", "50:", house.road(letter, small), 50);
        says("house.step(0);", "0:", house.step(0), 0);
        says("house.last(letter, true);", "50:", house.last(letter, true), 50);
        says("house.last(letter, false);", "80:", house.last(letter, false), 80);
        says("house.plan(20);", "50:", house.plan(20), 50);
        says("house.goal(20, letter);", "1,", house.goal(20, letter), small);
        int copy = house.turn(letter, 0);
        says("int copy = house.turn(letter, 0);", "1:", copy, 1);
        says("house.kept(letter, copy);", "2,", house.kept(letter, copy), 0b010);
        says("house.plan(51);", "-2:", house.plan(51), -2);
        says("house.plan(1000);", "-1,", house.plan(1000), FileHouse.NONE);
    }

    /** The table of tests must not fall behind the tests that .ci/run runs. */
    private static void namesEveryTest() throws IOException {
        Set<String> tests = new TreeSet<>();
        try (var places = Files.list(Path.of("src/test/java"))) {
            places.map(place -> place.getFileName().toString())
                    .filter(name -> name.endsWith("Test.java"))
                    .forEach(name -> tests.add(name.substring(0, name.length() - ".java".length())));
        }
        check.is("tests were found", tests.isEmpty(), false);
        for (String test : tests) {
            check.is("README.md names " + test, readme.contains("| `" + test + "` |"), true);
        }
        check.is("README.md says how to run them", readme.contains("\n.ci/run\n"), true);
    }
}
