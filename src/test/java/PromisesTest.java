/** One method a promise: ordinary inputs, the edges that the document names, and wrong inputs. */
public final class PromisesTest {
    private static final int NONE = NullGuard.NONE;

    public static void main(String[] args) {
        newObject();
        type();
        wipe();
        length();
        declare();
        statements();
        grammar();
        alarms();
        alarm();
        sure();
        linked();
        linkedIsLost();
        waysOfConditions();
        waysOutOfBlocks();
        run();
        runOfOracle();
        runOfConditions();
        runLimit();
        held();
        field();
        objects();
        steps();
        exampleOfReadme();
        Due.end("PromisesTest");
    }

    // Promise 1

    private static void newObject() {
        NullGuard guard = new NullGuard();
        Due.is("new NONE", -1, NullGuard.NONE);
        Due.is("new length", 0, guard.length());
        Due.is("new steps", NONE, guard.steps());
        Due.is("new objects", 0, guard.objects());
        Due.is("new field", NONE, guard.field(0, 0));
        for (int v = 0; v < 5; v++) {
            Due.is("new held " + v, NONE, guard.held(v));
            Due.is("new sure " + v, 1, guard.sure(0, v));
        }
        Due.is("new statements", 0, guard.statements());
        Due.is("new alarms", 0, guard.alarms());
    }

    // Promise 2

    private static void type() {
        NullGuard guard = new NullGuard();
        Due.is("type 0", true, guard.type(0));
        Due.is("length after 0", 0, guard.length());
        Due.is("type with gaps", true, guard.type(Due.part("a =  N ;")));
        Due.is("length with gaps", 4, guard.length());
        Due.is("highest byte first", 1, guard.statements());
        Due.is("type 32", false, guard.type(Due.part("!;!;!;") << 8 | 32));
        Due.is("type 127", false, guard.type(Due.part("!;!;!;") << 8 | 127));
        Due.is("type 255 first", false, guard.type(0xFFL << 56 | '!'));
        Due.is("type 1", false, guard.type(1));
        Due.is("nothing changed", 4, guard.length());
        Due.is("still a program", 1, guard.statements());
        Due.is("type 33", true, guard.type(33));
        Due.is("type 126", true, guard.type(126));
        Due.is("no program now", NONE, guard.statements());
        typeToTheLimit();
        typeAfterAsking();
    }

    private static void typeAfterAsking() {
        NullGuard guard = Due.typed("a=N;");
        Due.is("sure before more is typed", 2, guard.sure(4, 0));
        Due.is("no alarm before more is typed", 0, guard.alarms());
        Due.type(guard, "b.h=a;");
        Due.is("alarm of what was typed since", 1, guard.alarm(4));
        Due.is("linked by what was typed since", true, guard.linked(10, 1));
    }

    private static void typeToTheLimit() {
        NullGuard guard = Due.typed("!;".repeat(31));
        Due.is("type 3 to 62", false, guard.type(Due.part("!;!")));
        Due.is("length stays 62", 62, guard.length());
        Due.is("type 2 to 62", true, guard.type(Due.part("!;")));
        Due.is("length 64", 64, guard.length());
        Due.is("type 1 to 64", false, guard.type(';'));
        Due.is("type 0 to 64", true, guard.type(0));
        Due.is("full text", 32, guard.statements());
        Due.is("END of a full text", 1, guard.sure(64, 0));
        Due.is("run of a full text", 4 * 64, guard.run(0, 0));
        Due.is("steps of a full text", 32, guard.steps());
    }

    // Promise 3

    private static void wipe() {
        NullGuard guard = Due.typed("a=N;^;");
        guard.declare(1, true);
        guard.run(4, 0);
        guard.wipe();
        Due.is("wiped length", 0, guard.length());
        Due.is("wiped statements", 0, guard.statements());
        Due.is("wiped END", 1, guard.sure(0, 0));
        Due.is("wiped keeps declared", 2, guard.sure(0, 1));
        Due.is("wiped keeps the run", 1, guard.held(0));
        Due.is("wiped keeps steps", 1, guard.steps());
        Due.is("wiped old place", NONE, guard.alarm(4));
        guard.wipe();
        Due.is("wiped twice", 0, guard.length());
        Due.type(guard, "b.g=c;");
        Due.is("typed after wipe", 2, guard.alarm(0));
        guard.wipe();
        Due.is("alarms wiped", 0, guard.alarms());
        Due.is("alarm wiped", 0, guard.alarm(0));
    }

    // Promise 4

    private static void length() {
        NullGuard guard = Due.typed("?{}xyz!~");
        Due.is("length of no program", 8, guard.length());
        guard.type(Due.part("abc"));
        Due.is("length of two parts", 11, guard.length());
    }

    // Promise 5

    private static void declare() {
        NullGuard guard = Due.typed("a=n;e=n;");
        for (int v : Due.NO_LOCALS) {
            Due.is("declare " + v, false, guard.declare(v, true));
        }
        Due.is("no alarms", 0, guard.alarms());
        Due.is("declare 0", true, guard.declare(0, true));
        Due.is("declare 4", true, guard.declare(4, true));
        Due.is("two alarms", 2, guard.alarms());
        Due.is("declare solid again", true, guard.declare(4, true));
        Due.is("still two alarms", 2, guard.alarms());
        Due.is("run stops", 2, guard.run(0, 0));
        Due.is("declare loose", true, guard.declare(0, false));
        Due.is("one alarm", 1, guard.alarms());
        Due.is("run goes on", 4 * 4 + 2, guard.run(0, 0));
        Due.is("wrong one does not change", false, guard.declare(5, false));
        Due.is("still one alarm", 1, guard.alarms());
    }

    // Promise 6

    private static void statements() {
        Due.isProgram("", 0);
        Due.isProgram("a=n;b=N;c=@;d=e;e=a.g;a=b.h;", 6);
        Due.isProgram("a.g=n;b.h=N;c.g=@;d.h=e;e.g=a.g;", 5);
        Due.isProgram("!;^;!;", 3);
        Due.isProgram("?a{}", 1);
        Due.isProgram("?a{}{}", 1);
        Due.isProgram("?a{!;}{^;!;}*b{?c{}}!;", 7);
        Due.isProgram("*%|~a&b.g|~c.h&%{}", 1);
        Due.isProgram("?%{?%{?%{*%{*%{*%{!;}}}}}}", 7);
        Due.isProgram("?%{}{?%{}{?%{}{?%{}{?%{}{?%{}{}}}}}}", 6);
    }

    private static void grammar() {
        String[] wrong = {
            "a", "a=", "a=n", "=n;", "a=n;;", ";", "a=f;", "f=n;", "a.i=n;", "a.=n;", "a.g=;", "a.gn;", "a..g=n;",
            "a=b.i;", "a=b.;", "a=b.g.h;", "a.g.h=n;", "a=~b;", "a=%;", "A=n;", "n=a;", "N=a;", "@=a;", "a=nn;", "a=n,",
            "!", "!!", "^", "^!;", "{}", "}", "{", "a=n;}", "?", "?a", "?a;", "?a{", "?a{a=n;", "?a{a=n}", "?{}", "*{}",
            "?a{}{}{}", "*a{}{}", "*a", "?a&{}", "?&a{}", "?a|{}", "?|a{}", "?a&&b{}", "?a||b{}", "?ab{}", "?~{}",
            "?~%{}", "?~~a{}", "?n{}", "?N{}", "?@{}", "?a.{}", "?a.i{}", "?%.g{}", "?a~b{}", "?a{}}", "?a{{}}",
            "?a{}{", "?a{}{!;", "?f{}", "?a.g.h{}", "?(a){}", "a=n;x",
            "?%{?%{?%{*%{*%{*%{*%{}}}}}}}", "?%{}{?%{}{?%{}{?%{}{?%{}{?%{}{?%{}{}}}}}}}",
            "?%{".repeat(21), "{".repeat(64), "?%{}{".repeat(12),
        };
        for (String text : wrong) {
            Due.isNoProgram(text);
        }
    }

    // Promise 7

    private static void alarms() {
        Due.is("both kinds count once", 1, Due.typed("a.g=n;").alarms());
        Due.is("used twice, told once", 1, Due.typed("a=b.g;c=b.g;").alarms());
        Due.is("atoms count", 2, Due.typed("?a.g|b.h{}").alarms());
        Due.is("nothing behind ^", 0, Due.typed("^;a.g=n;").alarms());
        Due.is("after a loop", 1, Due.typed("a=N;*%{a=n;}b=a.g;").alarms());
        Due.is("in a loop", 1, Due.typed("a=N;*%{b=a.g;a=n;}").alarms());
        Due.is("in a loop that renews", 0, Due.typed("a=N;*%{b=a.g;a=n;a=N;}").alarms());
    }

    // Promise 8

    private static void alarm() {
        alarmIs("a=b.g;", 1);
        alarmIs("a=b.h;", 1);
        alarmIs("a.h=n;", 1);
        alarmIs("a.h=N;", 1);
        alarmIs("a.g=N;", 1);
        alarmIs("a.g=n;", 3);
        alarmIs("a.g=@;", 3);
        alarmIs("a.g=a;", 3);
        alarmIs("a.g=b.h;", 3);
        alarmIs("a.g=a.g;", 1);
        alarmIs("a=b;", 0);
        alarmIs("a=@;", 0);
        alarmIs("c=n;", 2);
        alarmIs("c=@;", 2);
        alarmIs("c=a;", 2);
        alarmIs("c=a.h;", 3);
        alarmIs("c=c.h;", 2);
        alarmIs("c=c.g;", 0);
        alarmIs("c=N;", 0);
        alarmIs("c=c;", 0);
        alarmIs("c.g=n;", 2);
        alarmIs("c.g=c;", 0);
        alarmIs("c.h=n;", 0);
        alarmIs("!;", 0);
        alarmIs("^;", 0);
        alarmIs("?a.g{}", 0);
        alarmIs("", 0);
        alarmPlaces();
    }

    /** The alarm at place 0, local c being SOLID. */
    private static void alarmIs(String text, int want) {
        NullGuard guard = Due.typed(text);
        guard.declare(2, true);
        Due.is("alarm(0) of " + text, want, guard.alarm(0));
    }

    private static void alarmPlaces() {
        NullGuard guard = Due.typed("?~a.h&%|b{c.g=a;}a=n;");
        int[] want = {0, 1, -1, -1, -1, -1, 0, -1, 0, -1, 1, -1, -1, -1, -1, -1, -1, 0, -1, -1, -1, 0};
        for (int p = 0; p < want.length; p++) {
            Due.is("alarm of place " + p, want[p], guard.alarm(p));
        }
        int[] outside = {-1, 22, 64, 65, 66, Integer.MIN_VALUE, Integer.MAX_VALUE};
        for (int p : outside) {
            Due.is("alarm of " + p, NONE, guard.alarm(p));
            Due.is("sure of " + p, NONE, guard.sure(p, 0));
            Due.is("linked of " + p, false, guard.linked(p, 0));
        }
    }

    // Promise 9

    private static void sure() {
        NullGuard guard = Due.typed("a=N;b=a;c=n;a=c;d=b.g;e=b.h;^;!;");
        Due.sureAre(guard, 0, "11111");
        Due.sureAre(guard, 4, "21111");
        Due.sureAre(guard, 8, "22111");
        Due.sureAre(guard, 12, "22111");
        Due.sureAre(guard, 16, "12111");
        Due.sureAre(guard, 22, "12121");
        Due.sureAre(guard, 28, "12121");
        Due.sureAre(guard, 30, "00000");
        Due.sureAre(guard, 32, "00000");
        for (int v : Due.NO_LOCALS) {
            Due.is("sure of local " + v, NONE, guard.sure(0, v));
        }
        Due.is("sure of no place", NONE, guard.sure(1, 0));
        sureOfUse();
        Due.is("both branches", 2, Due.typed("?%{a=N;}{a=N;}").sure(14, 0));
        Due.is("one branch", 1, Due.typed("?%{a=N;}").sure(8, 0));
        Due.is("other branch ends", 2, Due.typed("?%{a=N;}{^;}").sure(12, 0));
        Due.is("both branches end", 0, Due.typed("?%{^;}{^;}").sure(10, 0));
        Due.is("loop around", 1, Due.typed("a=N;*%{a=n;}").sure(5, 0));
        Due.is("before the loop", 2, Due.typed("a=N;*%{a=n;}").sure(4, 0));
    }

    private static void sureOfUse() {
        Due.is("after use as source", 2, Due.typed("b=a.h;").sure(6, 0));
        Due.is("after use as target", 2, Due.typed("a.h=n;").sure(6, 0));
        Due.is("after an alarm of kind 2", 2, Due.typed("a.g=n;").sure(6, 0));
        Due.is("used, then overwritten", 1, Due.typed("a=a.h;").sure(6, 0));
        Due.is("used, then overwritten by g", 2, Due.typed("a=a.g;").sure(6, 0));
        NullGuard guard = Due.typed("a=n;");
        guard.declare(0, true);
        Due.is("solid stays sure", 2, guard.sure(4, 0));
    }

    // Promise 10

    private static void linked() {
        NullGuard guard = Due.typed("a=N;b=a;a.h=b;c=a;d=a.g;e=a.h;^;!;");
        Due.linkedAre(guard, 0, ".....");
        Due.linkedAre(guard, 8, ".....");
        Due.linkedAre(guard, 14, "a....");
        Due.linkedAre(guard, 18, "a.c..");
        Due.linkedAre(guard, 24, "a.c..");
        Due.linkedAre(guard, 30, "a.c..");
        Due.is("h of a linked one is sure", 2, guard.sure(30, 4));
        Due.linkedAre(guard, 32, ".....");
        Due.linkedAre(guard, 1, ".....");
        for (int v : Due.NO_LOCALS) {
            Due.is("linked of local " + v, false, guard.linked(14, v));
        }
    }

    private static void linkedIsLost() {
        linkedAfter("", "ab...");
        linkedAfter("!;", ".....");
        linkedAfter("c=@;", ".....");
        linkedAfter("c=n;", "ab...");
        linkedAfter("c=N;", "ab...");
        linkedAfter("c.h=n;", ".....");
        linkedAfter("c.h=@;", ".....");
        linkedAfter("c.h=d;", ".....");
        linkedAfter("c.h=a;", "abc..");
        linkedAfter("c.g=@;", ".....");
        linkedAfter("c.g=n;", "ab...");
        linkedAfter("a.h=a.h;", "ab...");
        linkedAfter("a.h=c.h;", ".....");
        linkedAfter("a=n;", ".b...");
        linkedAfter("a=a;", "ab...");
        linkedAfter("a=b;", "ab...");
        linkedAfter("a=c;", ".b...");
        linkedAfter("a=a.g;", ".b...");
        linkedAfter("a=a.h;", ".b...");
        linkedAfter("d=a;", "ab.d.");
        linkedAfter("?%{!;}", ".....");
        linkedAfter("?%{a=n;}{b=n;}", ".....");
        linkedAfter("?%{a=n;}", ".b...");
    }

    /** What is LINKED at the END, after a and b were linked and this was done. */
    private static void linkedAfter(String text, String want) {
        String whole = "a=N;a.h=a;b=a;" + text;
        Due.linkedAre(Due.typed(whole), whole.length(), want);
        NullGuard solid = Due.typed(whole);
        solid.declare(0, true);
        Due.linkedAre(solid, whole.length(), want);
    }

    // The ways, as promises 8 to 10 show them

    private static void waysOfConditions() {
        Due.sureAre(Due.typed("?a{!;}{!;}"), 3, "21111");
        Due.sureAre(Due.typed("?a{!;}{!;}"), 7, "11111");
        Due.sureAre(Due.typed("?~a{!;}{!;}"), 4, "11111");
        Due.sureAre(Due.typed("?~a{!;}{!;}"), 8, "21111");
        Due.sureAre(Due.typed("?a&b{!;}{!;}"), 5, "22111");
        Due.sureAre(Due.typed("?a&b{!;}{!;}"), 9, "11111");
        Due.sureAre(Due.typed("?a|b{!;}{!;}"), 5, "11111");
        Due.sureAre(Due.typed("?~a|~b{!;}{!;}"), 11, "22111");
        Due.sureAre(Due.typed("?a|~b&c{!;}{!;}"), 3, "11111");
        Due.sureAre(Due.typed("?a|~b&c{!;}{!;}"), 6, "11111");
        Due.sureAre(Due.typed("?~a|b&c{!;}{!;}"), 6, "22111");
        Due.sureAre(Due.typed("?~a|b&c{!;}{!;}"), 8, "11111");
        Due.sureAre(Due.typed("?~a|b&c{!;}{!;}"), 12, "21111");
        Due.sureAre(Due.typed("?a.g{!;}{!;}"), 9, "21111");
        Due.linkedAre(Due.typed("?a.g{!;}{!;}"), 5, ".....");
        Due.sureAre(Due.typed("?a.h{!;}{!;}"), 9, "21111");
        Due.linkedAre(Due.typed("?a.h{!;}{!;}"), 5, "a....");
        Due.linkedAre(Due.typed("?a.h{!;}{!;}"), 9, ".....");
        Due.linkedAre(Due.typed("?~a.h{!;}{!;}"), 6, ".....");
        Due.linkedAre(Due.typed("?~a.h{!;}{!;}"), 10, "a....");
        Due.sureAre(Due.typed("*~a{!;}"), 7, "21111");
        Due.sureAre(Due.typed("*a{!;}"), 3, "21111");
        Due.sureAre(Due.typed("*a{!;}"), 6, "11111");
    }

    private static void waysOutOfBlocks() {
        Due.is("empty block", 1, Due.typed("?a{}!;").sure(4, 0));
        Due.is("empty second block", 1, Due.typed("?a{^;}{}!;").sure(8, 0));
        Due.is("second block only", 2, Due.typed("?a{}{^;}!;").sure(8, 0));
        Due.is("nested ends", 2, Due.typed("?%{?%{a=N;}{^;}}{a=N;}").sure(22, 0));
        Due.is("loop of a nested end", 1, Due.typed("a=N;*%{?%{a=n;}}").sure(5, 0));
        Due.is("empty loop", 2, Due.typed("*~a{}b=a.g;").sure(5, 0));
        Due.is("loop inside a loop", 1, Due.typed("a=N;*%{*%{a=n;}}").sure(5, 0));
        Due.is("loop without a way back", 2, Due.typed("a=N;*%{a=n;^;}").sure(5, 0));
    }

    // Promise 11

    private static void run() {
        Due.runIs("", 0, 0, 0, 0);
        Due.runIs("a=b.g;", 0, 0, 0, 1);
        Due.runIs("a=b.g;", 2, 0, 6, 0);
        Due.runIs("!;a.h=n;", 0, 0, 2, 1);
        Due.runIs("a.g=n;", 0, 0, 0, 1);
        Due.runIs("a.g=n;", 1, 0, 0, 2);
        Due.runIs("a.g=b.h;", 2, 0, 0, 1);
        Due.runIs("a.g=b.h;", 3, 0, 0, 2);
        Due.runIs("!;^;!;", 0, 0, 2, 0);
        Due.runIs("?a.g{}", 0, 0, 1, 1);
        Due.runIs("?~b.h{}", 0, 0, 1, 1);
        Due.runIs("a=n;?b|a.h{}", 2, 0, 12, 0);
        Due.runIs("a=n;?b&a.h{}", 2, 0, 7, 1);
        Due.is("run again is new", 0, Due.typed("").run(-1, -1));
        NullGuard guard = Due.typed("a=b.h;");
        guard.declare(0, true);
        guard.declare(1, true);
        Due.is("bits of solid ones do not count", 2, guard.run(0, 0));
        Due.is("nor if they are 1", 2, guard.run(-1, 0));
        Due.is("solid keeps what it held", 0, guard.held(0));
        noProgramRunsNothing();
    }

    private static void noProgramRunsNothing() {
        NullGuard guard = Due.typed("a=N;a.h=a;");
        Due.is("run", 40, guard.run(0, 0));
        guard.type('x');
        Due.is("run of no program", NONE, guard.run(0, 0));
        Due.is("held stays", 1, guard.held(0));
        Due.is("field stays", 1, guard.field(1, 1));
        Due.is("objects stay", 2, guard.objects());
        Due.is("steps stay", 2, guard.steps());
    }

    private static void runOfOracle() {
        oracleGives("a=@;", 0, NONE);
        oracleGives("a=@;", 1, 0);
        oracleGives("a=@;", 2, 0);
        oracleGives("a=@;", 3, 0);
        oracleGives("b=N;a=@;", 2, 1);
        oracleGives("b=N;a=@;", 3, 1);
        oracleGives("b=N;b=N;a=@;", 2, 1);
        oracleGives("b=N;b=N;b=N;a=@;", 3, 2);
        oracleGives("b=@;a=@;", 1 << 2, 0);
        oracleGives("?%{}a=@;", 2, 0);
        oracleGives("?%{}a=@;", 1, NONE);
        oracleGives("*%{}a=@;", -1, NONE);
        oracleGives("*%{}a=@;", -1L >>> 1, NONE);
        oracleGives("*%{}b=N;b=N;a=@;", ~(1L << 61), 2);
        oracleGives("*%{}b=N;b=N;a=@;", ~(1L << 62), 0);
        for (int k = 0; k < 4; k++) {
            callUnlinks(k);
        }
        NullGuard guard = Due.typed("a=N;a.h=a;!;");
        guard.run(0, 3);
        Due.is("! of the one made last", NONE, guard.field(1, 1));
    }

    private static void oracleGives(String text, long oracle, int want) {
        NullGuard guard = Due.typed(text);
        guard.run(0, oracle);
        Due.is("a after " + text + " with " + oracle, want, guard.held(0));
    }

    /** Four objects whose h hold the one before (0: itself), then one of them loses it. */
    private static void callUnlinks(int k) {
        NullGuard guard = Due.typed("a.h=a;b=N;b.h=a;c=N;c.h=b;d=N;d.h=c;!;");
        guard.run(1, k);
        for (int o = 0; o < 4; o++) {
            int held = o == 0 ? 0 : o - 1;
            Due.is("h of " + o + " after ! with " + k, o == k ? NONE : held, guard.field(o, 1));
        }
    }

    private static void runOfConditions() {
        String text = "?a&~b|c.g&%{d=N;}{e=N;}";
        goes(text, 1, 0, 3);
        goes(text, 1 | 2 | 4, 0, 4);
        goes(text, 1 | 2 | 4, 1, 3);
        goes(text, 4, 1, 3);
        Due.is("c is used only in its clause", 4 * 6 + 1, Due.typed(text).run(0, 0));
        goes("?~a{d=N;}{e=N;}", 0, 0, 3);
        goes("?~a{d=N;}{e=N;}", 1, 0, 4);
        goes("?a.h{d=N;}{e=N;}", 1, 0, 4);
        goes("?~a.h{d=N;}{e=N;}", 1, 0, 3);
        goes("?~a.g{d=N;}{e=N;}", 1, 0, 4);
        goes("a.h=a;?a.h{d=N;}{e=N;}", 1, 0, 3);
    }

    /** Whether d or e has the new object. */
    private static void goes(String text, int start, long oracle, int v) {
        NullGuard guard = Due.typed(text);
        Due.is("run of " + text, 4 * text.length(), guard.run(start, oracle));
        Due.is("d of " + text, v == 3 ? 1 : NONE, guard.held(3));
        Due.is("e of " + text, v == 4 ? 1 : NONE, guard.held(4));
    }

    private static void runLimit() {
        Due.runIs("*a{}", 1, 0, 1, 3);
        Due.runIs("*a{!;}", 1, 0, 3, 3);
        Due.runIs("*a{!;}", 0, 0, 6, 0);
        Due.runIs("*a|%{!;b=b;}", 1, 0, 5, 3);
    }

    // Promise 12

    private static void held() {
        NullGuard guard = Due.typed("a=N;b=N;c=a;a=n;");
        guard.run(16, 0);
        int[] want = {NONE, 2, 1, NONE, 0};
        for (int v = 0; v < 5; v++) {
            Due.is("held " + v, want[v], guard.held(v));
        }
        for (int v : Due.NO_LOCALS) {
            Due.is("held of local " + v, NONE, guard.held(v));
        }
        guard.wipe();
        guard.declare(0, true);
        Due.type(guard, "xyz");
        Due.is("held whatever came since", 2, guard.held(1));
        Due.is("held of a now solid one", NONE, guard.held(0));
        guard.wipe();
        guard.run(2, 0);
        Due.is("the latest run", 0, guard.held(1));
        Due.is("solid in the latest run", 0, guard.held(0));
        Due.is("empty in the latest run", NONE, guard.held(4));
    }

    // Promise 13

    private static void field() {
        NullGuard guard = Due.typed("a=N;b=N;a.h=b;b.g=a;c.h=c;");
        guard.run(4, 0);
        int[][] want = {{0, 0}, {1, 2}, {1, NONE}};
        for (int o = 0; o < 3; o++) {
            for (int f = 0; f < 2; f++) {
                Due.is("field(" + o + ", " + f + ")", want[o][f], guard.field(o, f));
            }
            Due.is("field 2 of " + o, NONE, guard.field(o, 2));
            Due.is("field -1 of " + o, NONE, guard.field(o, -1));
            Due.is("field lowest of " + o, NONE, guard.field(o, Integer.MIN_VALUE));
        }
        int[] none = {-1, 3, 7, 8, 9, Integer.MIN_VALUE, Integer.MAX_VALUE};
        for (int o : none) {
            Due.is("g of object " + o, NONE, guard.field(o, 0));
            Due.is("h of object " + o, NONE, guard.field(o, 1));
        }
        guard.wipe();
        guard.run(0, 0);
        Due.is("h is new in each run", NONE, guard.field(0, 1));
        Due.is("objects are new in each run", NONE, guard.field(1, 0));
    }

    // Promise 14

    private static void objects() {
        NullGuard guard = Due.typed("a=N;".repeat(7));
        guard.run(0, 0);
        Due.is("eight objects", 8, guard.objects());
        Due.is("the eighth", 7, guard.held(0));
        Due.type(guard, "a.h=b;c=N;");
        guard.run(2, 0);
        Due.is("no ninth", 8, guard.objects());
        Due.is("object 7 again", 7, guard.held(2));
        Due.is("object 7 as it is", 0, guard.field(7, 1));
        guard.wipe();
        guard.run(0, 0);
        Due.is("one in an empty run", 1, guard.objects());
        guard.wipe();
        Due.type(guard, "a.g=N;");
        Due.is("value found first", 1, guard.run(0, 0));
        Due.is("made before the use", 2, guard.objects());
    }

    // Promise 15

    private static void steps() {
        stepsAre("", 0, 0, 0);
        stepsAre("!;", 0, 0, 1);
        stepsAre("!;^;!;", 0, 0, 1);
        stepsAre("a=b.g;", 0, 0, 0);
        stepsAre("?a{!;}!;", 1, 0, 4);
        stepsAre("?a{!;}!;", 0, 0, 3);
        stepsAre("?a|b&c{!;}", 2, 0, 4);
        stepsAre("*%{!;}", 0, 1, 4);
        stepsAre("*%{}", 0, 7, 5);
        stepsAre("*a{}", 1, 0, 200);
        stepsToTheLimit();
    }

    private static void stepsAre(String text, int start, long oracle, int want) {
        NullGuard guard = Due.typed(text);
        guard.run(start, oracle);
        Due.is("steps of " + text, want, guard.steps());
    }

    /**
     * With 64 bits of 1 the loop makes 1 + 64 * (1 + 2) + 1 = 194 places; so many statements more
     * lead to 199, 200 and beyond.
     */
    private static void stepsToTheLimit() {
        String loop = "*%{a=b;a=b;}";
        endsAfter(loop + "a=b;".repeat(5), 199, 0, 32);
        endsAfter(loop + "a=b;".repeat(5) + "^;", 199, 0, 32);
        endsAfter(loop + "a=b;".repeat(6), 200, 3, 36);
        endsAfter(loop + "a=b;".repeat(6) + "^;", 200, 3, 36);
        endsAfter(loop + "a=b;".repeat(6) + "a.g=n;", 200, 3, 36);
        endsAfter(loop + "a=b;".repeat(7), 200, 3, 36);
    }

    private static void endsAfter(String text, int steps, int with, int place) {
        NullGuard guard = Due.typed(text);
        Due.is("run of " + text, 4 * place + with, guard.run(0, -1));
        Due.is("steps of " + text, steps, guard.steps());
    }

    // README.md

    private static void exampleOfReadme() {
        NullGuard guard = new NullGuard();
        Due.is("example type", true, guard.type(0x623d612e673bL));
        Due.is("example statements", 1, guard.statements());
        Due.is("example alarm", 1, guard.alarm(0));
        Due.is("example run with nothing", 1, guard.run(0, 0L));
        Due.is("example run with object 0", 24, guard.run(1, 0L));
        Due.is("example declare", true, guard.declare(0, true));
        Due.is("example alarms", 0, guard.alarms());
        Due.is("example sure", 2, guard.sure(6, 1));
        Due.is("example run when solid", 24, guard.run(0, 0L));
        Due.is("example held", 0, guard.held(1));
        Due.is("example steps", 1, guard.steps());
        Due.is("example condition", 1, Due.typed("?a&~b.h|%{}").statements());
    }
}
