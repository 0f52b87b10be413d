import java.util.Objects;

/** Counts the answers that are not as due, and ends a test with exit code 1 if there was one. */
final class Check {
    private int checks = 0;
    private int wrong = 0;

    void same(String what, Object got, Object due) {
        checks++;
        if (!Objects.equals(got, due)) {
            wrong++;
            System.out.println(what + ": answered " + got + ", due is " + due);
        }
    }

    void holds(String what, boolean truth) {
        same(what, truth, true);
    }

    void finish() {
        System.out.println(checks + " checks, " + wrong + " wrong");
        if (wrong != 0 || checks == 0) {
            System.exit(1);
        }
    }
}
