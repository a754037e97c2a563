/** Compares answers with those that are due, prints the wrong ones, and ends the program with 1 if there were any. */
final class Check {
    private final String name;
    private String held = "";
    private int asked = 0;
    private int wrong = 0;

    Check(String name) {
        this.name = name;
    }

    /** From here on the answers are held against these words of the document. */
    void hold(String section, String words) {
        Document.mustSay(this, section, words);
        held = section + ", \"" + words + "\": ";
    }

    void is(String what, long got, long due) {
        asked++;
        if (got != due) {
            wrong++;
            if (wrong <= 50) {
                System.out.println(name + ": " + held + what + " answered " + got + ", due is " + due);
            }
        }
    }

    void is(String what, boolean got, boolean due) {
        is(what, got ? 1 : 0, due ? 1 : 0);
    }

    void end() {
        System.out.println(name + ": " + asked + " answers, " + wrong + " wrong");
        if (wrong != 0 || asked == 0) {
            System.exit(1);
        }
    }
}
