/** Compares answers with those that are due, and types texts into an object. */
final class Due {
    private static int wrong = 0;

    private Due() {
    }

    static void is(String call, long want, long got) {
        if (got != want) {
            wrong++;
            System.out.println(call + " answered " + got + ", due is " + want);
        }
    }

    static void is(String call, boolean want, boolean got) {
        is(call, want ? 1 : 0, got ? 1 : 0);
    }

    static NullGuard typed(String text) {
        NullGuard guard = new NullGuard();
        type(guard, text);
        return guard;
    }

    static void type(NullGuard guard, String text) {
        for (int from = 0; from < text.length(); from += 8) {
            String piece = text.substring(from, Math.min(from + 8, text.length()));
            is("type of " + piece, true, guard.type(part(piece)));
        }
    }

    /** The part whose bytes are up to eight characters; a blank stands for a byte 0. */
    static long part(String characters) {
        long part = 0;
        for (char c : characters.toCharArray()) {
            part = part << 8 | (c == ' ' ? 0 : c);
        }
        return part;
    }

    static void end(String test) {
        System.out.println(wrong == 0 ? test + ": all answers are as due" : wrong + " answers are not as due");
        if (wrong != 0) {
            System.exit(1);
        }
    }
}
