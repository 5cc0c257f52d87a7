/** Counts answers that are not as due; a test ends with exit code 1 if there was one. */
final class Check {
    private int looked = 0;
    private int wrong = 0;
    private String sentence = "";

    /** The document's sentence that the answers from here on are held against. */
    void about(String words) {
        sentence = words + " | ";
    }

    void due(String call, long got, long want) {
        looked++;
        if (got != want) {
            wrong++;
            System.out.println(sentence + call + " answered " + got + ", due is " + want);
        }
    }

    void that(String what, boolean holds) {
        due(what, holds ? 1 : 0, 1);
    }

    void end() {
        System.out.println(looked + " answers looked at, " + wrong + " not as due");
        if (wrong != 0 || looked == 0) {
            System.exit(1);
        }
    }
}
