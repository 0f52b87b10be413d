import java.util.Objects;

/** Counts the answers that are not as due, and ends a test with exit code 1 if there was one. */
final class Check {
    private int checks = 0;
    private int wrong = 0;
    private String words = "";
    private int checksOfSentence = 1;

    /** Names the sentence of the document that the checks behind it hold the program to. */
    void sentence(String sentence) {
        endSentence();
        words = sentence;
        checksOfSentence = 0;
    }

    private void endSentence() {
        if (checksOfSentence == 0) {
            wrong++;
            System.out.println("'" + words + "' has no check");
        }
    }

    void same(String what, Object got, Object due) {
        checks++;
        checksOfSentence++;
        if (!Objects.equals(got, due)) {
            wrong++;
            String of = words.isEmpty() ? "" : "'" + words + "' ";
            System.out.println(of + what + ": answered " + got + ", due is " + due);
        }
    }

    void holds(String what, boolean truth) {
        same(what, truth, true);
    }

    void finish() {
        endSentence();
        System.out.println(checks + " checks, " + wrong + " wrong");
        if (wrong != 0 || checks == 0) {
            System.exit(1);
        }
    }
}
