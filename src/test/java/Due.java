/** Compares answers with those that are due, and types texts into an object. */
final class Due {
    static final int[] NO_LOCALS = {-1, 5, -5, 32, 64, Integer.MIN_VALUE, Integer.MAX_VALUE};

    private static int wrong = 0;
    private static int sentences = 0;
    private static String sentence = "";

    private Due() {
    }

    /** What is compared from here on is due by this sentence of the document. */
    static void sentence(String words) {
        sentences++;
        sentence = "[" + words + "] ";
    }

    static void is(String call, long want, long got) {
        if (got != want) {
            wrong++;
            System.out.println(sentence + call + " answered " + got + ", due is " + want);
        }
    }

    static void is(String call, boolean want, boolean got) {
        is(call, want ? 1 : 0, got ? 1 : 0);
    }

    static NullGuard typed(String text) {
        NullGuard guard = new NullGuard();
        type(guard, text);
        return guard;
    }

    static void type(NullGuard guard, String text) {
        for (int from = 0; from < text.length(); from += 8) {
            String piece = text.substring(from, Math.min(from + 8, text.length()));
            is("type of " + piece, true, guard.type(part(piece)));
        }
    }

    /** The part whose bytes are up to eight characters; a blank stands for a byte 0. */
    static long part(String characters) {
        long part = 0;
        for (char c : characters.toCharArray()) {
            part = part << 8 | (c == ' ' ? 0 : c);
        }
        return part;
    }

    /** What is known of the locals a to e at a place, a digit each. */
    static void sureAre(NullGuard guard, int p, String want) {
        for (int v = 0; v < 5; v++) {
            is("sure(" + p + ", " + v + ")", want.charAt(v) - '0', guard.sure(p, v));
        }
    }

    /** Which of the locals are LINKED at a place: a letter if it is, a dot if not. */
    static void linkedAre(NullGuard guard, int p, String want) {
        for (int v = 0; v < 5; v++) {
            is("linked(" + p + ", " + v + ")", want.charAt(v) != '.', guard.linked(p, v));
        }
    }

    static void isProgram(String text, int statements) {
        is("statements of " + text, statements, typed(text).statements());
    }

    static void isNoProgram(String text) {
        NullGuard guard = typed(text);
        int none = NullGuard.NONE;
        is("statements of " + text, none, guard.statements());
        is("alarms of " + text, none, guard.alarms());
        is("alarm of " + text, none, guard.alarm(0));
        is("alarm of END of " + text, none, guard.alarm(text.length()));
        is("sure of " + text, none, guard.sure(0, 0));
        is("linked of " + text, false, guard.linked(0, 0));
        is("run of " + text, none, guard.run(0, 0));
        is("steps of " + text, none, guard.steps());
        is("objects of " + text, 0, guard.objects());
    }

    static void runIs(String text, int start, long oracle, int place, int with) {
        is("run of " + text + " with " + start + ", " + oracle, 4 * place + with, typed(text).run(start, oracle));
    }

    static void end(String test) {
        String counted = sentences == 0 ? "" : sentences + " sentences, ";
        System.out.println(test + ": " + counted + (wrong == 0 ? "all answers are as due" : wrong + " answers are not"));
        if (wrong != 0) {
            System.exit(1);
        }
    }
}
