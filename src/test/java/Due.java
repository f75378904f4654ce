/** Counts the answers that are not the ones due, and prints each. */
final class Due {
    private static int asked = 0;
    private static int wrong = 0;
    private static String sentence = "";

    private Due() {
    }

    /** A test of its own for one sentence of the document, which is printed with what is not as due. */
    static void sentence(String words, Runnable test) {
        int before = asked;
        sentence = "[" + words + "] ";
        test.run();
        if (asked == before) {
            wrong++;
            System.out.println(sentence + "nothing was asked");
        }
        sentence = "";
    }

    static void is(String what, long got, long due) {
        asked++;
        if (got != due) {
            wrong++;
            System.out.println(sentence + what + " answered " + got + ", due is " + due);
        }
    }

    static void is(String what, boolean got, boolean due) {
        is(what, got ? 1 : 0, due ? 1 : 0);
    }

    static void yes(String what, boolean got) {
        is(what, got, true);
    }

    static void no(String what, boolean got) {
        is(what, got, false);
    }

    static void end() {
        System.out.println(asked + " answers, " + wrong + " not as due");
        if (wrong != 0 || asked == 0) {
            System.exit(1);
        }
    }
}
