// What the tests share: counting wrong answers and ending with exit code 1 if
// there was one.
final class Check {
    private static int wrong = 0;
    private static int looked = 0;
    private static int sentences = 0;
    private static String prefix = "";

    private Check() {
    }

    // Tests one sentence of the document, so that a wrong answer tells which
    // promise it breaks.
    static void sentence(String words, Runnable test) {
        int wrongBefore = wrong;
        int lookedBefore = looked;
        prefix = words + " | ";
        try {
            test.run();
        } catch (RuntimeException thrown) {
            due(thrown.toString(), 1, 0);
        }
        prefix = "";
        due("answers looked at for: " + words, looked > lookedBefore ? 1 : 0, 1);
        if (wrong != wrongBefore) {
            System.out.println("DOES NOT HOLD: " + words);
        }
        sentences++;
    }

    static void due(String call, long got, long want) {
        looked++;
        if (got != want) {
            wrong++;
            if (wrong <= 50) {
                System.out.println(prefix + call + " answered " + got + ", due is " + want);
            }
        }
    }

    static void end() {
        if (sentences != 0) {
            System.out.println(sentences + " sentences of the document tested");
        }
        System.out.println(looked + " answers looked at, " + wrong + " not as due");
        if (wrong != 0) {
            System.exit(1);
        }
    }
}
