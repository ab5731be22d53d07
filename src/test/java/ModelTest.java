import java.util.Random;

/**
 * Compares NullGuard with Model over made-up texts, the same ones each time, and looks at what the
 * document begins with: what the checker lets pass never uses nothing when it is run.
 */
public final class ModelTest {
    private static final int TEXTS = 20000;
    private static final int RUNS = 12;

    private static final Random random = new Random(20261115);
    private static final Texts texts = new Texts(random);
    private static int programs = 0;
    private static int clean = 0;
    private static int faults = 0;

    public static void main(String[] args) {
        NullGuard guard = new NullGuard();
        for (int i = 0; i < TEXTS; i++) {
            String text = text(i);
            // Some objects see one text after another, so that what an earlier one left would show.
            guard = i % 4 == 0 ? new NullGuard() : guard;
            guard.wipe();
            Due.type(guard, text);
            compare(guard, text);
        }
        Due.is("there were enough programs", true, programs > TEXTS / 2);
        Due.is("there were enough clean programs", true, clean > TEXTS / 20);
        Due.is("there were enough runs with faults", true, faults > TEXTS / 20);
        Due.end("ModelTest");
    }

    private static String text(int i) {
        if (i % 8 == 0) {
            return texts.loops();
        }
        return i % 3 == 0 ? texts.spoiled(texts.program()) : texts.program();
    }

    private static void compare(NullGuard guard, String text) {
        boolean isProgram = Model.isProgram(text);
        Due.is("statements of " + text, isProgram ? Model.countStatements(text) : -1, guard.statements());
        if (isProgram) {
            programs++;
            int solid = random.nextInt(3) == 0 ? random.nextInt(32) : random.nextInt(4);
            for (int v = 0; v < 5; v++) {
                guard.declare(v, (solid >> v & 1) == 1);
            }
            Model model = new Model(text, solid);
            compareKnowledge(guard, model, text + " with " + solid);
            compareRuns(guard, model, text + " with " + solid);
        }
    }

    private static void compareKnowledge(NullGuard guard, Model model, String of) {
        Due.is("alarms of " + of, model.alarms(), guard.alarms());
        clean += guard.alarms() == 0 ? 1 : 0;
        for (int p = -1; p <= 66; p++) {
            Due.is("alarm " + p + " of " + of, model.alarm(p), guard.alarm(p));
            for (int v = -1; v <= 5; v++) {
                Due.is("sure " + p + ", " + v + " of " + of, model.sure(p, v), guard.sure(p, v));
                Due.is("linked " + p + ", " + v + " of " + of, model.linked(p, v), guard.linked(p, v));
            }
        }
    }

    private static void compareRuns(NullGuard guard, Model model, String of) {
        for (int i = 0; i < RUNS; i++) {
            int start = random.nextInt();
            long oracle = i % 2 == 0 ? random.nextLong() : random.nextLong() | random.nextLong() | random.nextLong();
            String run = "run " + start + ", " + oracle + " of " + of;
            int answer = guard.run(start, oracle);
            Due.is(run, model.run(start, oracle), answer);
            compareLeft(guard, model, run);
            lookAtPromise(guard, answer, run);
        }
    }

    private static void compareLeft(NullGuard guard, Model model, String run) {
        Due.is("steps of " + run, model.steps(), guard.steps());
        Due.is("objects of " + run, model.objects(), guard.objects());
        for (int v = 0; v < 5; v++) {
            Due.is("held " + v + " of " + run, model.held(v), guard.held(v));
        }
        for (int o = 0; o < 8; o++) {
            for (int f = 0; f < 2; f++) {
                int due = o < model.objects() ? model.field(o, f) : -1;
                Due.is("field " + o + ", " + f + " of " + run, due, guard.field(o, f));
            }
        }
    }

    /** What is known at the place where a run ended is so, and its fault had an alarm there. */
    private static void lookAtPromise(NullGuard guard, int answer, String run) {
        int place = answer / 4;
        int with = answer % 4;
        if (with == 1 || with == 2) {
            faults++;
            Due.is("an alarm for " + run, with, guard.alarm(place) & with);
        }
        for (int v = 0; v < 5; v++) {
            Due.is("reached by " + run, true, guard.sure(place, v) > 0);
            if (guard.sure(place, v) == 2) {
                Due.is("sure " + v + " at the end of " + run, true, guard.held(v) >= 0);
            }
            if (guard.linked(place, v)) {
                Due.is("linked " + v + " at the end of " + run, true, guard.field(guard.held(v), 1) >= 0);
            }
        }
    }
}
