/** Says which sentence of the document a wrong answer breaks, and ends a test with the right exit code. */
final class Report {
    private static final int MOST_LINES = 20;

    private static String sentence = "";
    private static int wrongHere = 0;
    private static int wrongInAll = 0;

    private Report() {
    }

    static void test(String brokenIfWrong, Runnable body) {
        sentence = brokenIfWrong;
        wrongHere = 0;
        body.run();
    }

    static void wrong(String message) {
        wrongInAll++;
        wrongHere++;
        // One fault can spoil thousands of answers; the first ones tell it.
        if (wrongHere <= MOST_LINES) {
            System.out.println(sentence + "\n    " + message);
        }
    }

    static void end() {
        System.out.println(wrongInAll == 0 ? "all answers are as due" : wrongInAll + " answers are not as due");
        if (wrongInAll != 0) {
            System.exit(1);
        }
    }
}
