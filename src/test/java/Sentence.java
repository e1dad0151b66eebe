/** The test of one sentence of the document: names the sentence if an answer is not as due. */
final class Sentence {
    private Sentence() {
    }

    static void holds(String promise, String words, Runnable test) {
        int before = Due.wrongSoFar();
        Due.tellAnew();
        try {
            test.run();
        } catch (RuntimeException thrown) {
            // Told and counted here, so that the sentences after this one are still tried.
            Due.never("a call threw " + thrown);
        }
        if (Due.wrongSoFar() != before) {
            System.out.println("BROKEN  " + promise + ": " + words);
        }
    }
}
