/** Counts the answers that are not as due and says each of them, with the sentence that they are due by. */
final class Check {
    private final String name;
    private String sentence = "";
    private int checks = 0;
    private int checksBefore = 0;
    private int wrong = 0;

    Check(String name) {
        this.name = name;
    }

    /** The checks from here on are of these words of the document. */
    void sentence(String words) {
        endSentence();
        sentence = " [" + words + "]";
        checksBefore = checks;
    }

    private void endSentence() {
        if (!sentence.isEmpty() && checks == checksBefore) {
            wrong++;
            System.out.println(name + sentence + ": nothing was checked");
        }
    }

    void same(String what, long got, long due) {
        checks++;
        if (got != due) {
            wrong++;
            System.out.println(name + sentence + ": " + what + " answered " + got + ", due is " + due);
        }
    }

    void holds(String what, boolean isSo) {
        checks++;
        if (!isSo) {
            wrong++;
            System.out.println(name + sentence + ": does not hold: " + what);
        }
    }

    void close() {
        endSentence();
        System.out.println(name + ": " + checks + " checks, " + wrong + " wrong");
        if (wrong != 0 || checks == 0) {
            System.exit(1);
        }
    }
}
