/** Compares answers with the ones that are due, and counts the wrong ones. */
final class Due {
    private final String name;
    private int wrong = 0;

    Due(String name) {
        this.name = name;
    }

    void is(String call, long got, long want) {
        if (got != want) {
            wrong++;
            System.out.println(name + ": " + call + " answered " + got + ", due is " + want);
        }
    }

    void is(String call, boolean got, boolean want) {
        is(call, got ? 1 : 0, want ? 1 : 0);
    }

    void is(String call, String got, String want) {
        if (!got.equals(want)) {
            wrong++;
            System.out.println(name + ": " + call + " answered \"" + got + "\", due is \"" + want + "\"");
        }
    }

    void end() {
        System.out.println(name + (wrong == 0 ? ": all answers are as due" : ": wrong " + wrong));
        if (wrong != 0) {
            System.exit(1);
        }
    }
}
