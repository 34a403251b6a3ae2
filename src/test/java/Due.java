/** Compares answers with those that are due; prints each that isn't, and ends the test with exit code 1 if there was one. */
final class Due {
    private static int asked = 0;
    private static int wrong = 0;

    private Due() { }

    static void is(String call, long got, long want) {
        asked++;
        if (got != want) {
            wrong++;
            System.out.println(call + " answered " + got + ", due is " + want);
        }
    }

    static void so(String what, boolean holds) {
        is(what, holds ? 1 : 0, 1);
    }

    static boolean anyWrong() {
        return wrong > 0;
    }

    static void close(String test) {
        System.out.println(test + ": " + asked + " answers, " + wrong + " not as due");
        if (wrong > 0) {
            System.exit(1);
        }
    }

    /** Puts a text on the tape, eight bytes a call at most; answers what the last call answered (-1 for no text). */
    static int type(CampCards camp, String text) {
        int answer = -1;
        for (int from = 0; from < text.length(); from += 8) {
            int n = Math.min(8, text.length() - from);
            long bytes = 0;
            for (int i = n - 1; i >= 0; i--) {
                bytes = bytes << 8 | text.charAt(from + i) & 255;
            }
            answer = camp.feed(n, bytes);
        }
        return answer;
    }

    static int rule(CampCards camp, String text, int purpose, int day) {
        type(camp, text);
        return camp.rule(purpose, day);
    }
}
