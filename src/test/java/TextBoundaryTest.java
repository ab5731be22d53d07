/**
 * The boundary cases of the text (promises 1 to 6, and in "Terms" what makes a text a PROGRAM and
 * which places COUNT): a method for each sentence of the document that names one.
 */
public final class TextBoundaryTest {
    private static final int NONE = NullGuard.NONE;

    public static void main(String[] args) {
        callsOfOneObject();
        charactersOfTheText();
        noBlanks();
        anyNumberOfStatements();
        blocks();
        writes();
        firstAndSecondBlock();
        loopBlock();
        signs();
        values();
        clauses();
        atomsOfClause();
        atoms();
        locals();
        fields();
        timesOfParts();
        deepBlocks();
        placesThatCount();
        headAndFirstAtom();
        constant();
        newObject();
        bytesOfPart();
        zeroBytes();
        refusedBytes();
        refusedLength();
        wiped();
        lengths();
        declared();
        refusedDeclare();
        countedStatements();
        statementsOfNoProgram();
        Due.end("TextBoundaryTest");
    }

    private static void callsOfOneObject() {
        Due.sentence("An object is used for at most 512 calls after it has been made");
        NullGuard guard = new NullGuard();
        for (int calls = 0; calls < 512; calls += 4) {
            guard.wipe();
            Due.is("type, call " + (calls + 2), true, guard.type(Due.part("a=N;b=a;")));
            Due.is("run, call " + (calls + 3), 4 * 8, guard.run(0, 0));
            Due.is("held, call " + (calls + 4), 1, guard.held(1));
        }
    }

    // Terms: the text

    private static void charactersOfTheText() {
        Due.sentence("THE TEXT holds up to 64 characters, at the PLACES 0, 1, ..");
        NullGuard guard = Due.typed("!;".repeat(32));
        Due.is("full length", 64, guard.length());
        Due.is("statements of the full text", 32, guard.statements());
        Due.is("place 0", 0, guard.alarm(0));
        Due.is("the last statement's place", 0, guard.alarm(62));
        Due.is("the last character's place", NONE, guard.alarm(63));
        Due.is("a 65th character", false, guard.type('!'));
        Due.isProgram("?" + "%&".repeat(30) + "%{}", 1);
        Due.isProgram("!;".repeat(30) + "?a{}", 31);
        // Wherever a full text breaks off, nothing behind it is looked at.
        for (String rest : new String[] {"!;a=", "!;?a", "!;!!", "!;?~", "a=b.", "a.g=", "?a.h", "!;a.", "?a{!", "*a&b"}) {
            Due.isNoProgram("!;".repeat(30) + rest);
        }
    }

    private static void noBlanks() {
        Due.sentence("It is a PROGRAM when it is built so (no blanks)");
        NullGuard guard = new NullGuard();
        Due.is("a blank", false, guard.type(0x613d203b));
        Due.is("nothing typed", 0, guard.length());
        // The other characters that no program has.
        for (char c = 33; c <= 126; c++) {
            if ("abcdeghnN@.=;?*{}!^%~&|".indexOf(c) < 0) {
                Due.isNoProgram("" + c);
                Due.isNoProgram("a=" + c + ";");
                Due.isNoProgram("?" + c + "{}");
                Due.isNoProgram("!;" + c);
                Due.isNoProgram(c + "!;");
            }
        }
    }

    private static void anyNumberOfStatements() {
        Due.sentence("program = { statement }");
        Due.isProgram("", 0);
        Due.isProgram("a=n;", 1);
        Due.isProgram("a=n;".repeat(16), 16);
        Due.isProgram("!;".repeat(32), 32);
        Due.isNoProgram(";");
        Due.isNoProgram("!;;");
        Due.isNoProgram("!;a");
        Due.isNoProgram("a=n;!");
    }

    private static void blocks() {
        Due.sentence("block = '{' { statement } '}'");
        Due.isProgram("?a{}", 1);
        Due.isProgram("?a{!;}", 2);
        Due.isProgram("?a{" + "!;".repeat(30) + "}", 31);
        for (String text : new String[] {
            "?a{", "?a}", "?a{!;", "?a!;}", "?a{!}", "?a{}}", "?a{{}}", "?a{;}", "{}", "{!;}", "{", "}", "!;}", "?a{}{}}",
        }) {
            Due.isNoProgram(text);
        }
    }

    private static void writes() {
        Due.sentence("statement = local = value ;  or  local . field = value ;");
        Due.isProgram("a=n;", 1);
        Due.isProgram("a.g=n;", 1);
        for (String text : new String[] {
            "a", "a=", "a;", "a=;", "=n;", "a=n", "an;", "a==n;", "a=n;;", "a.=n;", "a.g", "a.g;", "a.gn;", ".g=n;",
            "ag=n;", "a.g=;", "a..g=n;", "a.g.h=n;", "n=n;", "a=n=n;", "ab=n;", "~a=n;", "%=n;",
            // Another character in place of the = or the ;
            "a;n;", "a.g.n;", "a.h&n;", "a=n=", "a=n}", "a.g=n.", "a=b.g=", "a.h=b|",
        }) {
            Due.isNoProgram(text);
        }
    }

    private static void firstAndSecondBlock() {
        Due.sentence("? condition block [ block ]");
        Due.isProgram("?a{}", 1);
        Due.isProgram("?a{}{}", 1);
        Due.isProgram("?a{}?b{}{}", 2);
        for (String text : new String[] {"?", "?a", "?{}", "?a;", "?a!;", "?a{}{", "?a{}{}{}", "?a{}!;{}", "??a{}"}) {
            Due.isNoProgram(text);
        }
    }

    private static void loopBlock() {
        Due.sentence("* condition block");
        Due.isProgram("*a{}", 1);
        Due.isProgram("*a{?b{}{}}", 2);
        for (String text : new String[] {"*", "*a", "*{}", "*a;", "*a{", "*a{}{}", "*a{}{", "**a{}", "?b{*a{}{}}"}) {
            Due.isNoProgram(text);
        }
    }

    private static void signs() {
        Due.sentence("! ;  or  ^ ;");
        Due.isProgram("!;", 1);
        Due.isProgram("^;", 1);
        for (String text : new String[] {"!", "^", "!!", "!^;", "^!;", "!;^", "!a;", "^n;", "!{}"}) {
            Due.isNoProgram(text);
        }
    }

    private static void values() {
        Due.sentence("value = n  or  N  or  @  or  local  or  local . field");
        Due.isProgram("a=n;a=N;a=@;a=e;a=e.h;", 5);
        for (String text : new String[] {
            "a=m;", "a=o;", "a=M;", "a=O;", "a=?;", "a=A;", "a=nn;", "a=n.g;", "a=N.h;", "a=@.g;", "a=e.;", "a=.h;",
            "a=eh;", "a=e.g.h;", "a=ee;", "a=~e;", "a=%;", "a=!;", "a=g;",
        }) {
            Due.isNoProgram(text);
        }
    }

    private static void clauses() {
        Due.sentence("condition = clause { | clause }");
        Due.isProgram("?a{}", 1);
        Due.isProgram("?a|b{}", 1);
        Due.isProgram("*" + "%|".repeat(30) + "%{}", 1);
        for (String text : new String[] {"?|{}", "?|a{}", "?a|{}", "?a||b{}", "?a|b|{}", "*a|", "?a|{}b{}", "?a,b{}"}) {
            Due.isNoProgram(text);
        }
    }

    private static void atomsOfClause() {
        Due.sentence("clause = atom { & atom }");
        Due.isProgram("?a&b{}", 1);
        Due.isProgram("?a&b|c&d{}", 1);
        for (String text : new String[] {"?&{}", "?&a{}", "?a&{}", "?a&&b{}", "?ab{}", "?a&|b{}", "?a|&b{}", "*a&"}) {
            Due.isNoProgram(text);
        }
    }

    private static void atoms() {
        Due.sentence("atom = %  or  [ ~ ] local [ . field ]");
        Due.isProgram("?%{}", 1);
        Due.isProgram("?a{}?~a{}?a.g{}?~a.h{}", 4);
        // A ~ stands before a local alone.
        Due.isNoProgram("?~%{}");
        Due.isNoProgram("*~%{}");
        Due.isNoProgram("?a&~%{}");
        Due.isNoProgram("?~%|a{}");
        for (String text : new String[] {
            "?~{}", "?~~a{}", "?%%{}", "?%.g{}", "?%a{}", "?a%{}", "?a~{}", "?a.~g{}", "?a.{}", "?.g{}", "?a.g.h{}",
            "?n{}", "?N{}", "?@{}", "?~n{}",
        }) {
            Due.isNoProgram(text);
        }
    }

    private static void locals() {
        Due.sentence("local = a, b, c, d or e");
        Due.isProgram("a=e;b=d;c=c;d=b;e=a;", 5);
        Due.isProgram("?a&b&c&d&e{}", 1);
        // The neighbours of a and e, and the large letters.
        for (char c : new char[] {'`', 'f', 'A', 'E'}) {
            Due.isNoProgram(c + "=n;");
            Due.isNoProgram(c + ".g=n;");
            Due.isNoProgram("a=" + c + ";");
            Due.isNoProgram("a=" + c + ".g;");
            Due.isNoProgram("?" + c + "{}");
            Due.isNoProgram("?~" + c + ".h{}");
        }
    }

    private static void fields() {
        Due.sentence("field = g or h");
        Due.isProgram("a.g=b.h;a.h=b.g;", 2);
        Due.isProgram("?a.g&a.h{}", 1);
        for (char c : new char[] {'f', 'i', 'G', 'H', '.', 'a', 'n'}) {
            Due.isNoProgram("a." + c + "=n;");
            Due.isNoProgram("a=b." + c + ";");
            Due.isNoProgram("?a." + c + "{}");
        }
    }

    private static void timesOfParts() {
        Due.sentence("({ } without quotes any number of times, [ ] once or not at all.)");
        for (int times = 0; times < 10; times++) {
            Due.isProgram("!;".repeat(times), times);
            Due.isProgram("?a{" + "!;".repeat(times) + "}", 1 + times);
            Due.isProgram("?a" + "|b".repeat(times) + "{}", 1);
            Due.isProgram("?a" + "&b".repeat(times) + "{}", 1);
            onceOrNot("?a{}" + "{}".repeat(times), times);
            onceOrNot("?" + "~".repeat(times) + "a{}", times);
            onceOrNot("?a" + ".h".repeat(times) + "{}", times);
        }
    }

    private static void onceOrNot(String text, int times) {
        if (times <= 1) {
            Due.isProgram(text, 1);
        } else {
            Due.isNoProgram(text);
        }
    }

    private static void deepBlocks() {
        Due.sentence("Blocks stand at most 6 deep in one another.");
        Due.isProgram("?%{".repeat(6) + "}".repeat(6), 6);
        Due.isProgram("*%{".repeat(6) + "!;" + "}".repeat(6), 7);
        Due.isProgram("?%{}{".repeat(6) + "}".repeat(6), 6);
        Due.isProgram("?a{}{".repeat(5) + "*a{}" + "}".repeat(5), 6);
        Due.isProgram("?a{}".repeat(16), 16);
        Due.isProgram("?a{}{}".repeat(10), 10);
        Due.isProgram("?%{".repeat(6) + "}".repeat(6) + "?%{".repeat(6) + "}".repeat(6), 12);
        Due.isNoProgram("?%{".repeat(7) + "}".repeat(7));
        Due.isNoProgram("*%{".repeat(7) + "!;" + "}".repeat(7));
        Due.isNoProgram("?%{}{".repeat(7) + "}".repeat(7));
        Due.isNoProgram("?%{".repeat(6) + "*a{}" + "}".repeat(6));
        Due.isNoProgram("?a{}{".repeat(6) + "?a{}" + "}".repeat(6));
        Due.isNoProgram("?%{".repeat(21) + "}");
    }

    private static void placesThatCount() {
        Due.sentence("The places of a program that COUNT are those where a statement begins,"
            + " those where an atom begins, and the END, which is the text's length.");
        counting("", "x");
        counting("a=n;", "x...x");
        counting("a.g=b.h;!;^;", "x.......x.x.x");
        counting("?a{}", "xx..x");
        counting("?a.g&b|%{!;}{^;}", "xx...x.x.x...x..x");
        // An atom with ~ begins there, not at its local.
        counting("*~a&~b.h{}!;", "xx..x.....x.x");
        counting("!;".repeat(32), "x.".repeat(32) + "x");
        counting("^;!;", "x.x.x");
    }

    private static void counting(String text, String marks) {
        NullGuard guard = Due.typed(text);
        for (int p = -2; p < 70; p++) {
            boolean counts = p >= 0 && p < marks.length() && marks.charAt(p) == 'x';
            Due.is("whether " + p + " counts in " + text, counts, guard.alarm(p) != NONE);
            Due.is("whether " + p + " has a state in " + text, counts, guard.sure(p, 0) != NONE);
        }
    }

    private static void headAndFirstAtom() {
        Due.sentence("(A ? or * and its first atom are two places that count.)");
        for (String text : new String[] {"?a{}", "*a{}", "?%{}", "*~a{}"}) {
            NullGuard guard = Due.typed(text);
            Due.is("alarm of the first sign of " + text, 0, guard.alarm(0));
            Due.is("alarm of the first atom of " + text, 0, guard.alarm(1));
        }
        NullGuard guard = Due.typed("?a{}");
        guard.run(0, 0);
        Due.is("a run is at both", 2, guard.steps());
    }

    // The constant; promises 1 to 6

    private static void constant() {
        Due.sentence("`NONE = -1`: There is none.");
        Due.is("NONE", -1, NullGuard.NONE);
    }

    private static void newObject() {
        Due.sentence("An empty text, all locals LOOSE, no run was made.");
        NullGuard guard = new NullGuard();
        Due.is("length", 0, guard.length());
        Due.sureAre(guard, 0, "11111");
        Due.is("steps", NONE, guard.steps());
        Due.is("objects", 0, guard.objects());
        Due.is("field", NONE, guard.field(0, 0));
        for (int v = 0; v < 5; v++) {
            Due.is("held", NONE, guard.held(v));
        }
        guard.run(0, 0);
        for (int v = 0; v < 5; v++) {
            Due.is("held after a run with no bits", NONE, guard.held(v));
        }
    }

    private static void bytesOfPart() {
        Due.sentence("Adds the characters that are the eight bytes of part, the highest first");
        NullGuard guard = new NullGuard();
        Due.is("eight bytes", true, guard.type(0x613d4e3b623d613bL));
        Due.is("length of eight", 8, guard.length());
        Due.is("a=N;b=a;", 2, guard.sure(8, 1));
        NullGuard turned = new NullGuard();
        Due.is("the lowest first would be so", true, turned.type(0x3b613d623b4e3d61L));
        Due.is("but is no program", NONE, turned.statements());
        Due.is("one after another", true, guard.type(Due.part("b=n;")));
        Due.is("added behind what was there", 1, guard.sure(12, 1));
    }

    private static void zeroBytes() {
        Due.sentence("(bytes that are 0 are passed over)");
        NullGuard guard = new NullGuard();
        Due.is("eight zeros", true, guard.type(0));
        Due.is("length", 0, guard.length());
        Due.is("zeros before", true, guard.type(Due.part("       !")));
        Due.is("zeros behind", true, guard.type(Due.part(";       ")));
        Due.is("zeros between", true, guard.type(Due.part("a = N ; ")));
        Due.is("length of all", 6, guard.length());
        Due.is("statements of all", 2, guard.statements());
        Due.type(guard, "!;".repeat(29));
        Due.is("full", 64, guard.length());
        Due.is("zeros to a full text", true, guard.type(0));
        Due.is("still full", 64, guard.length());
    }

    private static void refusedBytes() {
        Due.sentence("false, changing nothing, if another byte is not 33 .. 126");
        for (int b : new int[] {1, 9, 10, 31, 32, 127, 128, 160, 161, 254, 255}) {
            NullGuard guard = Due.typed("a=N;");
            for (int shift = 0; shift < 64; shift += 8) {
                Due.is("byte " + b + " alone", false, guard.type((long) b << shift));
            }
            Due.is("byte " + b + " last", false, guard.type(Due.part("!;!;!;!") << 8 | b));
            Due.is("byte " + b + " first", false, guard.type((long) b << 56 | Due.part("!;!;!;")));
            Due.is("length", 4, guard.length());
            Due.is("statements", 1, guard.statements());
            Due.is("what is known", 2, guard.sure(4, 0));
        }
        for (int b = 33; b <= 126; b++) {
            NullGuard guard = new NullGuard();
            Due.is("byte " + b, true, guard.type(b));
            Due.is("byte " + b + " highest", true, guard.type((long) b << 56));
            Due.is("length", 2, guard.length());
        }
    }

    private static void refusedLength() {
        Due.sentence("or there would be more than 64.");
        for (int size = 56; size <= 64; size++) {
            for (int more = 1; more <= 8; more++) {
                NullGuard guard = Due.typed("x".repeat(size));
                boolean fits = size + more <= 64;
                Due.is(more + " to " + size, fits, guard.type(Due.part("!".repeat(more))));
                Due.is("length after " + more + " to " + size, fits ? size + more : size, guard.length());
            }
        }
        // Zeros are no characters, so they do not make it too long.
        NullGuard guard = Due.typed("!;".repeat(31));
        Due.is("2 and six zeros to 62", true, guard.type(Due.part("!      ;")));
        Due.is("2 to 64", false, guard.type(Due.part("!;")));
        Due.is("statements of the full text", 32, guard.statements());
        Due.is("run of the full text", 4 * 64, guard.run(0, 0));
    }

    private static void wiped() {
        Due.sentence("The text becomes empty.");
        for (String text : new String[] {"", "a=N;", "no", "!;".repeat(32)}) {
            NullGuard guard = Due.typed(text);
            guard.wipe();
            Due.is("length after " + text, 0, guard.length());
            Due.is("statements after " + text, 0, guard.statements());
            Due.is("run after " + text, 0, guard.run(0, 0));
            Due.is("place 1 after " + text, NONE, guard.alarm(1));
            Due.type(guard, "!;".repeat(32));
            Due.is("full again after " + text, 32, guard.statements());
        }
        NullGuard asked = Due.typed("b.g=n;");
        Due.is("an alarm before", 1, asked.alarms());
        asked.wipe();
        Due.is("no alarm after", 0, asked.alarms());
        Due.sureAre(asked, 0, "11111");
        NullGuard guard = Due.typed("a=N;c=N;");
        guard.declare(0, true);
        guard.run(0, 0);
        guard.wipe();
        Due.is("the text alone: declared", 2, guard.sure(0, 0));
        Due.is("the text alone: held", 2, guard.held(2));
        Due.is("the text alone: steps", 2, guard.steps());
    }

    private static void lengths() {
        Due.sentence("The text's length.");
        NullGuard guard = new NullGuard();
        for (int size = 0; size <= 64; size++) {
            Due.is("length", size, guard.length());
            Due.is("one more", size < 64, guard.type('x'));
        }
        Due.is("length at last", 64, guard.length());
    }

    private static void declared() {
        Due.sentence("Local v becomes SOLID or else LOOSE: true");
        NullGuard guard = new NullGuard();
        for (int v = 0; v < 5; v++) {
            Due.is("solid", true, guard.declare(v, true));
            Due.sureAre(guard, 0, "22222".substring(0, v + 1) + "1111".substring(v));
            Due.is("solid again", true, guard.declare(v, true));
            Due.is("still solid", 2, guard.sure(0, v));
        }
        for (int v = 0; v < 5; v++) {
            Due.is("loose", true, guard.declare(v, false));
            Due.sureAre(guard, 0, "11111".substring(0, v + 1) + "2222".substring(v));
            Due.is("loose again", true, guard.declare(v, false));
            Due.is("still loose", 1, guard.sure(0, v));
        }
    }

    private static void refusedDeclare() {
        Due.sentence("false, changing nothing, if v is not 0 .. 4.");
        NullGuard guard = Due.typed("a=N;a.h=a;");
        for (int v : Due.NO_LOCALS) {
            Due.is("solid " + v, false, guard.declare(v, true));
        }
        Due.sureAre(guard, 0, "11111");
        Due.linkedAre(guard, 0, ".....");
        Due.linkedAre(guard, 10, "a....");
        for (int v = 0; v < 5; v++) {
            guard.declare(v, true);
        }
        for (int v : Due.NO_LOCALS) {
            Due.is("loose " + v, false, guard.declare(v, false));
        }
        Due.sureAre(guard, 0, "22222");
    }

    private static void countedStatements() {
        Due.sentence("How many statements the program has, in all its blocks");
        Due.isProgram("", 0);
        Due.isProgram("?a{}{}", 1);
        Due.isProgram("?a{!;}{!;}", 3);
        Due.isProgram("?a&b|c{*d{!;}}{?e{}{^;}}", 5);
        Due.isProgram("^;!;!;", 3);
        Due.isProgram("*%{".repeat(6) + "^;".repeat(20) + "}".repeat(6), 26);
    }

    private static void statementsOfNoProgram() {
        Due.sentence("in all its blocks; NONE if the text is no program.");
        NullGuard guard = Due.typed("a.g=n;");
        Due.is("statements", 1, guard.statements());
        Due.is("alarms", 1, guard.alarms());
        guard.type('!');
        Due.is("statements of no program", NONE, guard.statements());
        Due.is("alarms of no program", NONE, guard.alarms());
        guard.type(';');
        Due.is("statements of a program again", 2, guard.statements());
        Due.is("alarms of a program again", 1, guard.alarms());
    }
}
