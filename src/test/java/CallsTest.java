import java.util.Random;

/**
 * Long runs of calls of all kinds on one object, right and wrong ones, in whatever order: each answer
 * is compared with Model's for the text and the locals as they are then.
 */
public final class CallsTest {
    private static final int OBJECTS = 400;
    private static final int CALLS = 512;
    private static final int NONE = NullGuard.NONE;

    private static final Random random = new Random(8);
    private static final Texts texts = new Texts(random);

    private static int programs = 0;

    private final NullGuard guard = new NullGuard();
    private String text = "";
    private int solid;

    /** What is still to be typed of a made-up text. */
    private String rest = "";

    /** Of the text as it is, or null if it is no program. */
    private Model model = new Model(text, solid);

    /** The one whose run is the latest, or null. */
    private Model latest;

    public static void main(String[] args) {
        for (int i = 0; i < OBJECTS; i++) {
            CallsTest test = new CallsTest();
            for (int calls = 0; calls < CALLS; calls++) {
                programs += !test.text.isEmpty() && test.model != null ? 1 : 0;
                test.callAny();
            }
        }
        Due.is("there were enough programs", true, programs > OBJECTS * CALLS / 3);
        Due.end("CallsTest");
    }

    private void becomes(String newText, int newSolid) {
        text = newText;
        solid = newSolid;
        model = Model.isProgram(text) ? new Model(text, solid) : null;
    }

    private void due(String call, int want, int got) {
        Due.is(call + " of " + text + " with " + solid, want, got);
    }

    private void due(String call, boolean want, boolean got) {
        due(call, want ? 1 : 0, got ? 1 : 0);
    }

    private void callAny() {
        int choice = random.nextInt(rest.isEmpty() ? 16 : 24);
        if (choice < 6) {
            change(choice);
        } else if (choice < 12) {
            ask(choice);
        } else if (choice < 16) {
            askAboutRun(choice);
        } else {
            typeOn();
        }
    }

    private void change(int choice) {
        int rarely = random.nextInt(12);
        if (choice == 0) {
            declare();
        } else if (choice == 1 && rarely == 0) {
            typeAnything();
        } else if (choice == 2 && rarely < 4 && rest.isEmpty()) {
            makeUp();
            wipe();
        } else if (choice == 3 && rarely == 0) {
            makeUp();
            typeOn();
        } else {
            run();
        }
    }

    private void declare() {
        int v = anyNumber(5);
        boolean isSolid = random.nextInt(3) == 0;
        boolean isLocal = v >= 0 && v < 5;
        due("declare " + v, isLocal, guard.declare(v, isSolid));
        if (isLocal) {
            becomes(text, isSolid ? solid | 1 << v : solid & ~(1 << v));
        }
    }

    private void wipe() {
        guard.wipe();
        becomes("", solid);
    }

    private void makeUp() {
        rest = random.nextInt(4) == 0 ? texts.loops() : texts.program();
        rest = random.nextInt(8) == 0 ? texts.spoiled(rest) : rest;
    }

    private void typeOn() {
        int size = Math.min(rest.length(), 1 + random.nextInt(8));
        boolean typed = type(withGaps(rest.substring(0, size)));
        rest = typed ? rest.substring(size) : "";
    }

    private static String withGaps(String piece) {
        StringBuilder all = new StringBuilder(piece);
        while (all.length() < 8) {
            all.insert(random.nextInt(all.length() + 1), '\0');
        }
        return all.toString();
    }

    private void typeAnything() {
        StringBuilder all = new StringBuilder();
        for (int i = 0; i < 8; i++) {
            all.append(random.nextInt(9) == 0 ? (char) random.nextInt(256) : '\0');
        }
        type(all.toString());
    }

    private boolean type(String bytes) {
        long part = 0;
        boolean fine = true;
        StringBuilder added = new StringBuilder(text);
        for (char c : bytes.toCharArray()) {
            part = part << 8 | c;
            if (c != 0) {
                added.append(c);
                fine &= c > ' ' && c <= '~';
            }
        }
        fine &= added.length() <= 64;
        due("type " + part, fine, guard.type(part));
        if (fine) {
            becomes(added.toString(), solid);
        }
        return fine;
    }

    private void run() {
        int start = random.nextInt();
        long oracle = random.nextLong() | (random.nextBoolean() ? random.nextLong() : 0);
        due("run " + start + ", " + oracle, model == null ? NONE : model.run(start, oracle), guard.run(start, oracle));
        latest = model == null ? latest : model;
    }

    private void ask(int choice) {
        int p = anyNumber(text.length() + 1);
        int v = anyNumber(5);
        if (choice == 6) {
            due("statements", model == null ? NONE : Model.countStatements(text), guard.statements());
        } else if (choice == 7) {
            due("alarms", model == null ? NONE : model.alarms(), guard.alarms());
        } else if (choice == 8) {
            due("length", text.length(), guard.length());
        } else if (choice == 9) {
            due("alarm " + p, model == null ? NONE : model.alarm(p), guard.alarm(p));
        } else if (choice == 10) {
            due("sure " + p + ", " + v, model == null ? NONE : model.sure(p, v), guard.sure(p, v));
        } else {
            due("linked " + p + ", " + v, model != null && model.linked(p, v), guard.linked(p, v));
        }
    }

    private void askAboutRun(int choice) {
        if (choice == 12) {
            int v = anyNumber(5);
            boolean isThere = latest != null && v >= 0 && v < 5;
            due("held " + v, isThere ? latest.held(v) : NONE, guard.held(v));
        } else if (choice == 13) {
            int o = anyNumber(8);
            int f = anyNumber(2);
            boolean isThere = latest != null && o >= 0 && o < latest.objects() && f >= 0 && f < 2;
            due("field " + o + ", " + f, isThere ? latest.field(o, f) : NONE, guard.field(o, f));
        } else if (choice == 14) {
            due("objects", latest == null ? 0 : latest.objects(), guard.objects());
        } else {
            due("steps", latest == null ? NONE : latest.steps(), guard.steps());
        }
    }

    /** One below this bound, but now and then any other. */
    private static int anyNumber(int bound) {
        int choice = random.nextInt(16);
        if (choice == 0) {
            return random.nextInt();
        }
        return choice == 1 ? -1 : choice == 2 ? bound : random.nextInt(bound);
    }
}
