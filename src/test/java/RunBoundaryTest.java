/**
 * The boundary cases of runs (promises 11 to 15, and in "Terms" what a RUN is): a method for each
 * sentence of the document that names one.
 */
public final class RunBoundaryTest {
    private static final int NONE = NullGuard.NONE;

    /** With 64 bits of 1 a run is at 1 + 64 * 3 + 1 = 194 places in it; what follows is at place 12. */
    private static final String LOOP = "*%{a=b;a=b;}";

    /** The next 5 places; what follows is the 200th, at place 32. */
    private static final String TO_THE_200TH = LOOP + "a=b;".repeat(5);

    /** The next 6 places; what follows is behind the 200th, at place 36. */
    private static final String BEHIND_THE_200TH = LOOP + "a=b;".repeat(6);

    public static void main(String[] args) {
        atMostEightObjects();
        firstObject();
        startOfLocals();
        wayOfRun();
        nothing();
        newObject();
        newObjectOfEight();
        asked();
        askedForTooMany();
        called();
        calledForTooMany();
        chance();
        lowestBitsFirst();
        zerosWithoutEnd();
        atoms();
        valueFirst();
        usingNothing();
        givingNothing();
        endings();
        twoHundredPlaces();
        emptyTextRuns();
        bitsOfSolid();
        answerOfRun();
        runOfNoProgram();
        heldInLatestRun();
        heldByNone();
        fieldInLatestRun();
        fieldOfNone();
        countedObjects();
        objectsWithoutRun();
        countedSteps();
        stepsWithoutRun();
        Due.end("RunBoundaryTest");
    }

    private static NullGuard ran(String text, int start, long oracle) {
        NullGuard guard = Due.typed(text);
        guard.run(start, oracle);
        return guard;
    }

    private static void heldAre(NullGuard guard, int... want) {
        for (int v = 0; v < want.length; v++) {
            Due.is("held(" + v + ")", want[v], guard.held(v));
        }
    }

    private static void fieldsAre(NullGuard guard, int o, int g, int h) {
        Due.is("field(" + o + ", 0)", g, guard.field(o, 0));
        Due.is("field(" + o + ", 1)", h, guard.field(o, 1));
    }

    // Terms: objects and locals

    private static void atMostEightObjects() {
        Due.sentence("There are at most 8 objects, numbered as they are made;");
        for (int made = 0; made <= 16; made++) {
            NullGuard guard = ran("a=N;".repeat(made), 0, 0);
            Due.is("objects after " + made, Math.min(1 + made, 8), guard.objects());
            Due.is("the latest of " + made, made == 0 ? NONE : Math.min(made, 7), guard.held(0));
        }
        heldAre(ran("a=N;b=N;c=N;d=N;e=N;", 0, 0), 1, 2, 3, 4, 5);
    }

    private static void firstObject() {
        Due.sentence("at first object 0 is there, whose field g holds itself and whose field h holds nothing.");
        NullGuard guard = ran("", 1, 0);
        Due.is("objects", 1, guard.objects());
        Due.is("held", 0, guard.held(0));
        fieldsAre(guard, 0, 0, NONE);
        // Whatever the run before did to it.
        Due.type(guard, "a.h=a;b=N;a.g=b;");
        guard.run(1, 0);
        fieldsAre(guard, 0, 1, 0);
        guard.wipe();
        guard.run(0, 0);
        fieldsAre(guard, 0, 0, NONE);
    }

    private static void startOfLocals() {
        Due.sentence("SOLID locals hold object 0; LOOSE local k holds it if bit k of start is 1, else nothing.");
        for (int start = 0; start < 32; start++) {
            NullGuard guard = ran("", start, 0);
            for (int v = 0; v < 5; v++) {
                Due.is("held(" + v + ") with " + start, (start >> v & 1) == 1 ? 0 : NONE, guard.held(v));
            }
        }
        // Higher bits belong to no local.
        heldAre(ran("", -32, 0), NONE, NONE, NONE, NONE, NONE);
        heldAre(ran("", Integer.MIN_VALUE, 0), NONE, NONE, NONE, NONE, NONE);
        heldAre(ran("", -1, 0), 0, 0, 0, 0, 0);
        heldAre(ran("", Integer.MAX_VALUE - 1, 0), NONE, 0, 0, 0, 0);
        NullGuard guard = new NullGuard();
        guard.declare(0, true);
        guard.declare(4, true);
        guard.run(2, 0);
        heldAre(guard, 0, 0, NONE, NONE, 0);
    }

    private static void wayOfRun() {
        Due.sentence("The run goes from place to place as above, from place 0 on, doing what stands there:");
        // Out of six blocks at once, and past them.
        String six = "?%{".repeat(6) + "a=N;" + "}".repeat(6);
        goes(six, 0, 63, 28, 13);
        goes(six, 0, 31, 28, 12);
        goes(six, 0, 0, 28, 2);
        // Through empty blocks, and where nothing follows in a block.
        goes("?a{}{^;}!;", 1, 0, 10, 3);
        goes("?a{}{^;}!;", 0, 0, 5, 2);
        goes("?a{^;}{}!;", 0, 0, 10, 3);
        goes("?a{^;}{}!;", 1, 0, 3, 2);
        goes("*%{}", 0, 7, 4, 5);
        goes("*%{*%{}}", 0, 0b0011, 8, 6);
        goes("*%{?%{}{}}", 0, 0b001, 10, 5);
        goes("*%{?%{}}", 0, 0b011, 8, 5);
        goes("*%{?%{*%{!;}}}", 0, 0b000111, 14, 9);
        // From atom to atom.
        goes("?a&b|c{^;}", 3, 0, 7, 3);
        goes("?a&b|c{^;}", 5, 0, 7, 4);
        goes("?a&b|c{^;}", 4, 0, 7, 3);
        goes("?a&b|c{^;}", 0, 0, 10, 3);
        goes("?a|b|c{^;}", 1, 0, 7, 2);
    }

    /** A run that ends with 0. */
    private static void goes(String text, int start, long oracle, int place, int steps) {
        NullGuard guard = Due.typed(text);
        Due.is("run of " + text + " with " + start + ", " + oracle, 4 * place, guard.run(start, oracle));
        Due.is("steps of " + text + " with " + start + ", " + oracle, steps, guard.steps());
    }

    // Terms: values and the oracle

    private static void nothing() {
        Due.sentence("n is nothing;");
        heldAre(ran("a=n;b=n;", 1, -1), NONE, NONE);
        fieldsAre(ran("a.h=a;a.h=n;", 1, 0), 0, 0, NONE);
    }

    private static void newObject() {
        Due.sentence("N a new object, whose g holds itself and whose h holds nothing");
        NullGuard guard = ran("a=N;b=N;b.h=a;b.g=a;c=N;", 0, 0);
        fieldsAre(guard, 1, 1, NONE);
        fieldsAre(guard, 2, 1, 1);
        fieldsAre(guard, 3, 3, NONE);
        // The same number in a later run is a new object again.
        guard.wipe();
        Due.type(guard, "a=N;b=N;");
        guard.run(0, 0);
        fieldsAre(guard, 2, 2, NONE);
    }

    private static void newObjectOfEight() {
        Due.sentence("(if there are 8, object 7 as it is).");
        NullGuard guard = ran("a=N;".repeat(7) + "a.h=b;a.g=b;c=N;d=N;", 2, 0);
        Due.is("objects", 8, guard.objects());
        heldAre(guard, 7, 0, 7, 7);
        fieldsAre(guard, 7, 0, 0);
        fieldsAre(guard, 0, 0, NONE);
    }

    private static void asked() {
        Due.sentence("@ takes 2 bits of the ORACLE: 0 is nothing, k = 1, 2, 3 is object k - 1");
        String three = "b=N;c=N;a=@;d=@;";
        heldAre(ran(three, 1, 0b0000), NONE, 1, 2, NONE);
        heldAre(ran(three, 1, 0b0001), 0, 1, 2, NONE);
        heldAre(ran(three, 1, 0b0010), 1, 1, 2, NONE);
        heldAre(ran(three, 1, 0b0011), 2, 1, 2, NONE);
        heldAre(ran(three, 1, 0b1100), NONE, 1, 2, 2);
        heldAre(ran(three, 1, 0b1001), 0, 1, 2, 1);
        Due.is("not the one made last, if there are so many", 2, ran("b=N;b=N;b=N;a=@;", 0, 3).held(0));
    }

    private static void askedForTooMany() {
        Due.sentence("k = 1, 2, 3 is object k - 1, or the one made last if there are not so many.");
        for (int k = 1; k < 4; k++) {
            Due.is("of one, " + k, 0, ran("a=@;", 0, k).held(0));
            Due.is("of two, " + k, Math.min(k - 1, 1), ran("b=N;a=@;", 0, k).held(0));
            Due.is("of three, " + k, k - 1, ran("b=N;b=N;a=@;", 0, k).held(0));
        }
        Due.is("makes none", 1, ran("a=@;", 0, 3).objects());
    }

    private static void called() {
        Due.sentence("! takes 2 bits, k: the field h of object k");
        String four = "a.h=a;b=N;b.h=a;c=N;c.h=a;d=N;d.h=a;!;e=@;";
        for (int k = 0; k < 4; k++) {
            NullGuard guard = ran(four, 1, k | 2 << 2);
            for (int o = 0; o < 4; o++) {
                fieldsAre(guard, o, o, o == k ? NONE : 0);
            }
            Due.is("the bits behind those of !", 1, guard.held(4));
        }
        // Objects 4 to 7 are never named by 2 bits, not even as the one made last.
        NullGuard guard = ran("a=N;a=N;a=N;a=N;a.h=a;!;", 0, 3);
        fieldsAre(guard, 4, 4, 4);
    }

    private static void calledForTooMany() {
        Due.sentence("or of the one made last if there are not so many, holds nothing then.");
        for (int k = 0; k < 4; k++) {
            fieldsAre(ran("a.h=a;!;", 1, k), 0, 0, NONE);
            NullGuard guard = ran("a.h=a;b=N;b.h=a;!;", 1, k);
            fieldsAre(guard, 0, 0, k == 0 ? NONE : 0);
            fieldsAre(guard, 1, 1, k == 0 ? 0 : NONE);
        }
        fieldsAre(ran("!;", 0, 0), 0, 0, NONE);
    }

    private static void chance() {
        Due.sentence("% takes 1 bit, 1 is TRUE.");
        Due.runIs("?%{^;}", 0, 1, 3, 0);
        Due.runIs("?%{^;}", 0, 0, 6, 0);
        Due.runIs("?%{^;}", 0, 2, 6, 0);
        Due.runIs("?%&%{^;}{!;^;}", 0, 3, 5, 0);
        Due.runIs("?%&%{^;}{!;^;}", 0, 1, 11, 0);
        Due.runIs("?%|%{^;}{!;^;}", 0, 2, 5, 0);
        // Only an atom that the run is at takes its bit.
        Due.is("a bit for each atom", 0, ran("?%|%{}a=@;", 0, 1 << 2).held(0));
        Due.is("none for the one passed by", 0, ran("?%|%{}a=@;", 0, 1 << 1 | 1).held(0));
    }

    private static void lowestBitsFirst() {
        Due.sentence("(The ORACLE's lowest bits are taken first;");
        heldAre(ran("a=@;b=@;", 0, 0b0001), 0, NONE);
        heldAre(ran("a=@;b=@;", 0, 0b0100), NONE, 0);
        Due.is("1, then 2 bits", 0, ran("?%{}a=@;", 0, 0b010).held(0));
        // 61 bits of 1 and a 0 are taken by the loop; what is left are the highest two.
        NullGuard guard = ran("a=N;a=N;*%{}a=@;", 0, ~(1L << 61));
        Due.is("bits 62 and 63", 2, guard.held(0));
    }

    private static void zerosWithoutEnd() {
        Due.sentence("when all are taken there are zeros without end.)");
        String text = "b=N;c=N;*%{}a=@;";
        Due.is("bit 63 and a zero", 0, ran(text, 0, ~(1L << 62)).held(0));
        Due.is("two zeros", NONE, ran(text, 0, ~(1L << 63)).held(0));
        Due.is("all are 1", NONE, ran(text, 0, -1).held(0));
        Due.is("places of all", 3 + 64 + 1 + 1, ran(text, 0, -1).steps());
        // Zeros behind them, too: more than 64 bits in a run of the longest kind.
        Due.is("% 65 times and more", 4 * 12, Due.typed("*%{}?%{}?%{}").run(0, -1));
        Due.is("from the highest bit alone", 4 * 4, Due.typed("*%{}").run(0, Long.MIN_VALUE));
        NullGuard guard = ran("*%{}a.h=a;!;", 1, -1);
        fieldsAre(guard, 0, 0, NONE);
    }

    private static void atoms() {
        Due.sentence("v or v.g or v.h is TRUE if that holds an object, with ~ if it does not.");
        Due.runIs("?a{^;}", 1, 0, 3, 0);
        Due.runIs("?a{^;}", 0, 0, 6, 0);
        Due.runIs("?~a{^;}", 1, 0, 7, 0);
        Due.runIs("?~a{^;}", 0, 0, 4, 0);
        Due.runIs("?a.g{^;}", 1, 0, 5, 0);
        Due.runIs("?~a.g{^;}", 1, 0, 9, 0);
        Due.runIs("?a.h{^;}", 1, 0, 8, 0);
        Due.runIs("?~a.h{^;}", 1, 0, 6, 0);
        Due.runIs("a.h=a;?a.h{^;}", 1, 0, 11, 0);
        Due.runIs("a.h=a;?~a.h{^;}", 1, 0, 15, 0);
    }

    // Terms: how a run ends

    private static void valueFirst() {
        Due.sentence("The value is found first, then v is used.");
        for (String field : new String[] {"g", "h"}) {
            NullGuard guard = ran("a." + field + "=N;", 0, 0);
            Due.is("run", 1, guard.run(0, 0));
            // The new object is made even when the use of v that follows ends the run.
            Due.is("objects", 2, guard.objects());
            fieldsAre(guard, 1, 1, NONE);
            Due.is("held", NONE, guard.held(0));
        }
        // v is used before nothing would come into its g.
        Due.runIs("a.g=n;", 0, 0, 0, 1);
        Due.runIs("a.g=b.h;", 2, 0, 0, 1);
        // A use in the value comes before both.
        Due.runIs("a.g=b.h;", 1, 0, 0, 1);
        // What v holds then is what it held when the value was found.
        fieldsAre(ran("a.h=a.g;", 1, 0), 0, 0, 0);
        heldAre(ran("a=N;a=a.h;", 0, 0), NONE);
    }

    private static void usingNothing() {
        Due.sentence("Using a local that holds nothing ends the run with 1 there;");
        Due.runIs("b=a.g;", 0, 0, 0, 1);
        Due.runIs("b=a.h;", 0, 0, 0, 1);
        Due.runIs("a.g=b;", 2, 0, 0, 1);
        Due.runIs("a.h=b;", 2, 0, 0, 1);
        Due.runIs("!;?a.g{}", 0, 0, 3, 1);
        Due.runIs("!;?~a.h{}", 0, 0, 3, 1);
        Due.runIs("*b|a.h{}", 0, 0, 3, 1);
        // To ask whether it holds something, or to take it as a value, is no use.
        Due.runIs("?a{}b=a;", 0, 0, 8, 0);
        // Nothing is written any more.
        NullGuard guard = ran("b=a.g;c=b;", 2, 0);
        heldAre(guard, NONE, 0, NONE);
        Due.is("steps", 0, guard.steps());
    }

    private static void givingNothing() {
        Due.sentence("nothing that would come into a SOLID local or a field g ends it with 2 there.");
        for (String value : new String[] {"n", "@", "b", "a.h"}) {
            NullGuard guard = Due.typed("a=N;a=" + value + ";");
            guard.declare(0, true);
            Due.is("run of " + value, 4 * 4 + 2, guard.run(0, 0));
            Due.is("what a SOLID local held stays", 1, guard.held(0));
            Due.is("steps", 1, guard.steps());
            guard.declare(0, false);
            Due.is("a LOOSE one may", 4 * (7 + value.length()), guard.run(0, 0));
            Due.is("held by a LOOSE one", NONE, guard.held(0));
            String field = "a.g=" + value + ";";
            Due.runIs(field, 1, 0, 0, 2);
            fieldsAre(ran(field, 1, 0), 0, 0, NONE);
            Due.runIs("a.h=" + value + ";", 1, 0, 5 + value.length(), 0);
        }
    }

    private static void endings() {
        Due.sentence("^ or the END ends it with 0.");
        Due.runIs("", 0, 0, 0, 0);
        Due.runIs("^;", 0, 0, 0, 0);
        Due.runIs("!;", 0, 0, 2, 0);
        Due.runIs("!;^;", 0, 0, 2, 0);
        Due.runIs("?%{^;}{!;}", 0, 1, 3, 0);
        Due.runIs("?%{^;}{!;}", 0, 0, 10, 0);
        Due.runIs("!;".repeat(32), 0, 0, 64, 0);
        Due.runIs("!;".repeat(31) + "^;", 0, 0, 62, 0);
        Due.is("behind ^ nothing is done", NONE, ran("^;a=N;", 0, 0).held(0));
    }

    private static void twoHundredPlaces() {
        Due.sentence("A run that was at 200 places that count and has not ended at them"
            + " ends with 3 at the next one, whatever that is.");
        // What ends a run at the 200th place.
        endsAt(TO_THE_200TH, 199, 32, 0);
        endsAt(TO_THE_200TH + "^;", 199, 32, 0);
        endsAt(TO_THE_200TH + "a.h=a;", 199, 32, 1);
        endsAt(TO_THE_200TH + "e=n;", 199, 32, 2);
        endsAt(LOOP + "a=b;".repeat(4) + "?a.g{}", 199, 29, 1);
        // The next one, whatever that is: the END, ^, a fault, or what would go on.
        for (String next : new String[] {"", "^;", "a.h=a;", "e=n;", "a=N;", "!;", "?a{}", "*a{}"}) {
            endsAt(BEHIND_THE_200TH + next, 200, 36, 3);
        }
        endsAt(TO_THE_200TH + "?a{}", 200, 33, 3);
        endsAt(TO_THE_200TH + "?a.g{}", 200, 33, 3);
        endsAt(TO_THE_200TH + "?%{}", 200, 33, 3);
        Due.runIs("*a{}", 1, 0, 1, 3);
        Due.runIs("*a{!;}", 1, 0, 3, 3);
        // It is not done any more.
        NullGuard guard = ran(BEHIND_THE_200TH + "a=N;", 0, -1);
        Due.is("objects", 1, guard.objects());
        Due.is("held", NONE, guard.held(0));
        // And what the 200th does is done.
        Due.is("object of the 200th", 1, ran(TO_THE_200TH + "a=N;", 0, -1).held(0));
    }

    /** A run whose local e is SOLID, with 64 bits of 1. */
    private static void endsAt(String text, int steps, int place, int with) {
        NullGuard guard = Due.typed(text);
        guard.declare(4, true);
        Due.is("run of " + text, 4 * place + with, guard.run(0, -1));
        Due.is("steps of " + text, steps, guard.steps());
    }

    // Promises 11 to 15

    private static void emptyTextRuns() {
        Due.sentence("Runs the program (the empty text is one, too)");
        NullGuard guard = new NullGuard();
        Due.is("run", 0, guard.run(0, 0));
        Due.is("steps", 0, guard.steps());
        Due.is("objects", 1, guard.objects());
        Due.type(guard, "!;");
        guard.wipe();
        Due.is("run of a wiped one", 0, guard.run(-1, -1));
        Due.is("steps of a wiped one", 0, guard.steps());
    }

    private static void bitsOfSolid() {
        Due.sentence("with this start (bits of SOLID locals do not count)");
        NullGuard guard = Due.typed("b=a;");
        guard.declare(0, true);
        for (int start : new int[] {0, 1, -1, -2}) {
            Due.is("run with " + start, 4 * 4, guard.run(start, 0));
            Due.is("a with " + start, 0, guard.held(0));
            Due.is("b with " + start, 0, guard.held(1));
            Due.is("c with " + start, start < 0 ? 0 : NONE, guard.held(2));
        }
    }

    private static void answerOfRun() {
        Due.sentence("4 * (the place where it ended) + what it ended with.");
        Due.runIs("", 0, 0, 0, 0);
        Due.runIs("a.h=n;", 0, 0, 0, 1);
        Due.runIs("a.g=n;", 1, 0, 0, 2);
        Due.runIs("!;".repeat(28) + "a.h=n;", 0, 0, 56, 1);
        Due.runIs("!;".repeat(29) + "a.g=n;", 1, 0, 58, 2);
        Due.runIs("!;".repeat(30) + "*a{}", 1, 0, 61, 3);
        Due.runIs("!;".repeat(32), 0, 0, 64, 0);
    }

    private static void runOfNoProgram() {
        Due.sentence("NONE, changing nothing, if the text is no program.");
        NullGuard fresh = Due.typed("a=N");
        Due.is("first run", NONE, fresh.run(-1, -1));
        Due.is("no run was made", NONE, fresh.steps());
        Due.is("no object", 0, fresh.objects());
        Due.is("no field", NONE, fresh.field(0, 0));
        heldAre(fresh, NONE, NONE, NONE, NONE, NONE);
        NullGuard guard = ran("a=N;a.h=a;", 0, 0);
        guard.type('a');
        Due.is("run of no program", NONE, guard.run(-1, -1));
        Due.is("steps stay", 2, guard.steps());
        Due.is("objects stay", 2, guard.objects());
        heldAre(guard, 1, NONE, NONE, NONE, NONE);
        fieldsAre(guard, 0, 0, NONE);
        fieldsAre(guard, 1, 1, 1);
        Due.is("length stays", 11, guard.length());
    }

    private static void heldInLatestRun() {
        Due.sentence("The object that local v held when the latest run ended (whatever came to the text since)");
        NullGuard guard = ran("a=N;b=N;", 16, 0);
        guard.wipe();
        heldAre(guard, 1, 2, NONE, NONE, 0);
        Due.type(guard, "a=n;");
        heldAre(guard, 1, 2, NONE, NONE, 0);
        guard.type(Due.part("no"));
        guard.declare(2, true);
        guard.run(0, 0);
        heldAre(guard, 1, 2, NONE, NONE, 0);
        guard.wipe();
        guard.run(2, 0);
        heldAre(guard, NONE, 0, 0, NONE, NONE);
        heldAre(ran("a=N;b.h=a;", 0, 0), 1, NONE);
    }

    private static void heldByNone() {
        Due.sentence("NONE if it held nothing, no run was made, or v is not 0 .. 4.");
        NullGuard guard = new NullGuard();
        heldAre(guard, NONE, NONE, NONE, NONE, NONE);
        guard.run(30, 0);
        heldAre(guard, NONE, 0, 0, 0, 0);
        for (int v : Due.NO_LOCALS) {
            Due.is("held(" + v + ")", NONE, guard.held(v));
        }
    }

    private static void fieldInLatestRun() {
        Due.sentence("The object that field g (f = 0) or h (f = 1) of object o held when the latest run ended");
        NullGuard guard = ran("a.h=a;b=N;b.g=a;b.h=b;" + "c=N;".repeat(6), 1, 0);
        fieldsAre(guard, 0, 0, 0);
        fieldsAre(guard, 1, 0, 1);
        for (int o = 2; o < 8; o++) {
            fieldsAre(guard, o, o, NONE);
        }
        guard.wipe();
        fieldsAre(guard, 1, 0, 1);
        guard.run(0, 0);
        fieldsAre(guard, 1, NONE, NONE);
    }

    private static void fieldOfNone() {
        Due.sentence("NONE if it held nothing, there is no such object or field, or no run was made.");
        NullGuard guard = Due.typed("a.h=a;b=N;b.h=a;" + "c=N;".repeat(6));
        for (int o = 0; o < 8; o++) {
            fieldsAre(guard, o, NONE, NONE);
        }
        guard.run(1, 0);
        Due.is("field that holds nothing", NONE, guard.field(7, 1));
        for (int o : new int[] {-1, 8, 9, 256, Integer.MIN_VALUE, Integer.MAX_VALUE}) {
            fieldsAre(guard, o, NONE, NONE);
        }
        for (int f : new int[] {-1, 2, 3, 256, Integer.MIN_VALUE, Integer.MAX_VALUE}) {
            Due.is("field(0, " + f + ")", NONE, guard.field(0, f));
            Due.is("field(1, " + f + ")", NONE, guard.field(1, f));
        }
        // An object that an earlier run made is none of the latest.
        guard.wipe();
        Due.type(guard, "a=N;");
        guard.run(0, 0);
        fieldsAre(guard, 1, 1, NONE);
        fieldsAre(guard, 2, NONE, NONE);
    }

    private static void countedObjects() {
        Due.sentence("How many objects there were when the latest run ended");
        NullGuard guard = ran("a=N;".repeat(8), 0, 0);
        Due.is("of eight N", 8, guard.objects());
        guard.wipe();
        Due.is("the text is none of it", 8, guard.objects());
        guard.run(0, 0);
        Due.is("of the next run", 1, guard.objects());
        Due.is("that no local holds", 3, ran("a=N;a=N;a=n;", 0, 0).objects());
        Due.is("up to the fault", 2, ran("a=N;b.h=a;a=N;", 0, 0).objects());
    }

    private static void objectsWithoutRun() {
        Due.sentence("0 if no run was made.");
        NullGuard guard = Due.typed("a=N;");
        Due.is("objects", 0, guard.objects());
        guard.type('x');
        guard.run(0, 0);
        Due.is("objects after a refused run", 0, guard.objects());
    }

    private static void countedSteps() {
        Due.sentence("How many places that count the latest run was at before the one where it ended");
        Due.is("ended at the first", 0, ran("^;", 0, 0).steps());
        Due.is("ended at the first with a fault", 0, ran("a.g=n;", 0, 0).steps());
        Due.is("the END of the empty text", 0, ran("", 0, 0).steps());
        Due.is("a full text", 32, ran("!;".repeat(32), 0, 0).steps());
        Due.is("a head and its atom", 2, ran("?a{}", 0, 0).steps());
        Due.is("an atom passed by", 2, ran("?a|b{}", 1, 0).steps());
        Due.is("a place again each time", 1 + 3 * 2 + 1, ran("*%{!;}", 0, 0b1001001).steps());
        Due.is("as many as can be", 200, ran("*a{}", 1, 0).steps());
        NullGuard guard = ran("!;!;", 0, 0);
        guard.wipe();
        Due.is("whatever came since", 2, guard.steps());
        guard.run(0, 0);
        Due.is("the latest", 0, guard.steps());
    }

    private static void stepsWithoutRun() {
        Due.sentence("before the one where it ended; NONE if no run was made.");
        NullGuard guard = Due.typed("!;");
        Due.is("steps", NONE, guard.steps());
        guard.type('x');
        guard.run(0, 0);
        Due.is("steps after a refused run", NONE, guard.steps());
    }
}
