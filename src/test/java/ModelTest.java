import java.util.Random;

/**
 * Compares NullGuard with Model over made-up texts, the same ones each time, and looks at what the
 * document begins with: what the checker lets pass never uses nothing when it is run.
 */
public final class ModelTest {
    private static final int TEXTS = 20000;
    private static final int RUNS = 12;
    private static final String SIGNS = "abcdefghnN@.=;?*{}!^%~&|x";

    private static final Random random = new Random(20261115);
    private static int programs = 0;
    private static int clean = 0;
    private static int faults = 0;

    public static void main(String[] args) {
        NullGuard guard = new NullGuard();
        for (int i = 0; i < TEXTS; i++) {
            String text = i % 3 == 0 ? spoiled(program()) : program();
            // Some objects see one text after another, so that what an earlier one left would show.
            guard = i % 4 == 0 ? new NullGuard() : guard;
            guard.wipe();
            Due.type(guard, text);
            compare(guard, text);
        }
        Due.is("there were enough programs", true, programs > TEXTS / 2);
        Due.is("there were enough clean programs", true, clean > TEXTS / 20);
        Due.is("there were enough runs with faults", true, faults > TEXTS / 20);
        Due.end("ModelTest");
    }

    private static void compare(NullGuard guard, String text) {
        boolean isProgram = Model.isProgram(text);
        Due.is("statements of " + text, isProgram ? Model.countStatements(text) : -1, guard.statements());
        if (isProgram) {
            programs++;
            int solid = random.nextInt(3) == 0 ? random.nextInt(32) : random.nextInt(4);
            for (int v = 0; v < 5; v++) {
                guard.declare(v, (solid >> v & 1) == 1);
            }
            Model model = new Model(text, solid);
            compareKnowledge(guard, model, text + " with " + solid);
            compareRuns(guard, model, text + " with " + solid);
        }
    }

    private static void compareKnowledge(NullGuard guard, Model model, String of) {
        Due.is("alarms of " + of, model.alarms(), guard.alarms());
        clean += guard.alarms() == 0 ? 1 : 0;
        for (int p = -1; p <= 66; p++) {
            Due.is("alarm " + p + " of " + of, model.alarm(p), guard.alarm(p));
            for (int v = -1; v <= 5; v++) {
                Due.is("sure " + p + ", " + v + " of " + of, model.sure(p, v), guard.sure(p, v));
                Due.is("linked " + p + ", " + v + " of " + of, model.linked(p, v), guard.linked(p, v));
            }
        }
    }

    private static void compareRuns(NullGuard guard, Model model, String of) {
        for (int i = 0; i < RUNS; i++) {
            int start = random.nextInt();
            long oracle = i % 2 == 0 ? random.nextLong() : random.nextLong() | random.nextLong() | random.nextLong();
            String run = "run " + start + ", " + oracle + " of " + of;
            int answer = guard.run(start, oracle);
            Due.is(run, model.run(start, oracle), answer);
            compareLeft(guard, model, run);
            lookAtPromise(guard, answer, run);
        }
    }

    private static void compareLeft(NullGuard guard, Model model, String run) {
        Due.is("steps of " + run, model.steps(), guard.steps());
        Due.is("objects of " + run, model.objects(), guard.objects());
        for (int v = 0; v < 5; v++) {
            Due.is("held " + v + " of " + run, model.held(v), guard.held(v));
        }
        for (int o = 0; o < 8; o++) {
            for (int f = 0; f < 2; f++) {
                int due = o < model.objects() ? model.field(o, f) : -1;
                Due.is("field " + o + ", " + f + " of " + run, due, guard.field(o, f));
            }
        }
    }

    /** What is known at the place where a run ended is so, and its fault had an alarm there. */
    private static void lookAtPromise(NullGuard guard, int answer, String run) {
        int place = answer / 4;
        int with = answer % 4;
        if (with == 1 || with == 2) {
            faults++;
            Due.is("an alarm for " + run, with, guard.alarm(place) & with);
        }
        for (int v = 0; v < 5; v++) {
            Due.is("reached by " + run, true, guard.sure(place, v) > 0);
            if (guard.sure(place, v) == 2) {
                Due.is("sure " + v + " at the end of " + run, true, guard.held(v) >= 0);
            }
            if (guard.linked(place, v)) {
                Due.is("linked " + v + " at the end of " + run, true, guard.field(guard.held(v), 1) >= 0);
            }
        }
    }

    // Texts: few locals more often than many, so that what is known of one meets a use of it.

    private static String program() {
        while (true) {
            String text = statements(0, 1 + random.nextInt(7));
            if (text.length() <= 64) {
                return text;
            }
        }
    }

    private static String statements(int depth, int count) {
        StringBuilder all = new StringBuilder();
        for (int i = 0; i < count; i++) {
            all.append(statement(depth));
        }
        return all.toString();
    }

    private static String statement(int depth) {
        int choice = random.nextInt(20);
        if (choice < 7 && depth < 7) {
            String head = (choice < 4 ? "?" : "*") + condition() + block(depth);
            return choice < 2 ? head + block(depth) : head;
        }
        if (choice == 18) {
            return "!;";
        }
        if (choice == 19) {
            return "^;";
        }
        return name() + "=" + value() + ";";
    }

    private static String block(int depth) {
        return "{" + statements(depth + 1, random.nextInt(4)) + "}";
    }

    private static String condition() {
        StringBuilder all = new StringBuilder(atom());
        while (random.nextInt(3) == 0) {
            all.append(random.nextBoolean() ? "&" : "|").append(atom());
        }
        return all.toString();
    }

    private static String atom() {
        if (random.nextInt(3) == 0) {
            return "%";
        }
        return (random.nextInt(3) == 0 ? "~" : "") + name();
    }

    private static String value() {
        int choice = random.nextInt(8);
        return choice == 0 ? "n" : choice == 1 ? "@" : choice < 4 ? "N" : name();
    }

    private static String name() {
        String local = "aaabbbcde".charAt(random.nextInt(9)) + "";
        int choice = random.nextInt(6);
        return choice == 0 ? local + ".g" : choice < 3 ? local + ".h" : local;
    }

    private static String spoiled(String text) {
        int at = random.nextInt(text.length());
        String sign = "" + SIGNS.charAt(random.nextInt(SIGNS.length()));
        int kind = random.nextInt(3);
        String middle = kind == 0 ? "" : kind == 1 || text.length() == 64 ? sign : sign + text.charAt(at);
        return text.substring(0, at) + middle + text.substring(at + 1);
    }
}
