import java.util.Arrays;

/** Counts the answers that are not the ones that are due. */
final class Due {
    private int wrong = 0;
    private int asked = 0;
    private String sentence = "";

    /** Runs the test of one sentence of the document, which must look at some answer. */
    void sentence(String words, Runnable test) {
        int before = asked;
        sentence = "\"" + words + "\": ";
        test.run();
        if (asked == before) {
            wrong++;
            System.out.println(sentence + "no answer was looked at");
        }
        sentence = "";
    }

    void is(String call, long got, long want) {
        asked++;
        if (got != want) {
            wrong++;
            System.out.println(sentence + call + " answered " + got + ", due is " + want);
        }
    }

    void is(String call, boolean got, boolean want) {
        is(call, got ? 1 : 0, want ? 1 : 0);
    }

    void same(String name, int[] got, int[] want) {
        asked++;
        if (!Arrays.equals(got, want)) {
            wrong++;
            System.out.println(sentence + name + " answers " + Arrays.toString(got)
                + ", due is " + Arrays.toString(want));
        }
    }

    void end() {
        System.out.println(asked + " answers looked at, " + wrong + " not as due");
        if (wrong != 0 || asked == 0) {
            System.exit(1);
        }
    }
}
