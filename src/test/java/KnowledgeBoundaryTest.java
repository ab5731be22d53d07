/**
 * The boundary cases of what is known (promises 7 to 10, and in "Terms" the states, what flows and
 * the alarms): a method for each sentence of the document that names one.
 */
public final class KnowledgeBoundaryTest {
    private static final int NONE = NullGuard.NONE;
    private static final int[] NO_PLACES = {-1, -64, 64, 65, 66, Integer.MIN_VALUE, Integer.MAX_VALUE};

    public static void main(String[] args) {
        numbersOfLocals();
        joinWithUnreached();
        joinOfOthers();
        start();
        untilNothingChanges();
        nothingFromUnreached();
        using();
        valueNothing();
        valueNew();
        valueAsked();
        valueLocal();
        valueFieldG();
        valueFieldH();
        writeToSolid();
        writeToLocal();
        linkedByWrite();
        writeFieldG();
        writeFieldH();
        call();
        stop();
        waysOfStatements();
        headsFlowUnchanged();
        atomOfChance();
        atomOfLocal();
        atomOfFieldG();
        atomOfFieldH();
        atomTurned();
        waysWhenTrue();
        waysWhenFalse();
        waysOfEmptyBlocks();
        alarmsOfFinalStates();
        countedAlarms();
        alarmsOfNoProgram();
        kindsOfAlarm();
        alarmOfNoPlace();
        sureOfUnreached();
        sureOfNone();
        linkedOfNone();
        Due.end("KnowledgeBoundaryTest");
    }

    private static NullGuard typed(String solid, String text) {
        NullGuard guard = Due.typed(text);
        for (char c : solid.toCharArray()) {
            guard.declare(c - 'a', true);
        }
        return guard;
    }

    private static void alarmIs(String solid, String text, int p, int want) {
        Due.is("alarm(" + p + ") of " + text, want, typed(solid, text).alarm(p));
    }

    private static void sureAtEnd(String text, String want) {
        Due.sureAre(Due.typed(text), text.length(), want);
    }

    private static void linkedAtEnd(String text, String want) {
        Due.linkedAre(Due.typed(text), text.length(), want);
    }

    // Terms: the states

    private static void numbersOfLocals() {
        Due.sentence("LOCALS are numbered 0 .. 4 (a .. e).");
        sureAtEnd("a=N;", "21111");
        sureAtEnd("b=N;", "12111");
        sureAtEnd("c=N;", "11211");
        sureAtEnd("d=N;", "11121");
        sureAtEnd("e=N;", "11112");
        linkedAtEnd("a.h=N;", "a....");
        linkedAtEnd("e.h=N;", "....e");
    }

    private static void joinWithUnreached() {
        Due.sentence("The JOIN of UNREACHED and another state is that one;");
        sureAtEnd("?%{^;}{a.h=N;}", "21111");
        linkedAtEnd("?%{^;}{a.h=N;}", "a....");
        sureAtEnd("?%{a.h=N;}{^;}", "21111");
        linkedAtEnd("?%{a.h=N;}{^;}", "a....");
        sureAtEnd("?%{^;}", "11111");
        sureAtEnd("?%{^;}{^;}", "00000");
        linkedAtEnd("?%{^;}{^;}", ".....");
        sureAtEnd("a=N;*%{a=n;^;}", "21111");
    }

    private static void joinOfOthers() {
        Due.sentence("of two others it has SURE and LINKED what both have so.");
        sureAtEnd("?%{a=N;b=N;}{b=N;c=N;}", "12111");
        sureAtEnd("?%{a=N;}", "11111");
        sureAtEnd("?%{a=N;}{a=N;}", "21111");
        linkedAtEnd("?%{a.h=N;b.h=N;}{b.h=N;c.h=N;}", ".b...");
        linkedAtEnd("?%{a.h=N;}", ".....");
        // SURE on both ways, LINKED on one.
        sureAtEnd("?%{a=N;}{a.h=N;}", "21111");
        linkedAtEnd("?%{a=N;}{a.h=N;}", ".....");
    }

    private static void start() {
        Due.sentence("then the state of the first place (0) is joined with the START,"
            + " in which the SOLID locals are SURE and no one is LINKED");
        Due.sureAre(typed("", ""), 0, "11111");
        Due.sureAre(typed("ae", ""), 0, "21112");
        Due.sureAre(typed("abcde", "a.h=a;"), 0, "22222");
        Due.linkedAre(typed("abcde", "a.h=a;"), 0, ".....");
        // Nothing flows back to place 0: the loop's way back is to its atom.
        NullGuard loop = typed("a", "*~b.h{b.h=b;}");
        Due.sureAre(loop, 0, "21111");
        Due.linkedAre(loop, 0, ".....");
        Due.sureAre(typed("a", "^;"), 2, "00000");
    }

    private static void untilNothingChanges() {
        Due.sentence("and again and again what a place's state FLOWS to another place is joined"
            + " to the state there, as long as any state changes.");
        // Each time round the loop one local more is lost.
        String chain = "a=N;b=N;c=N;d=N;e=N;*%{a=b;b=c;c=d;d=e;e=n;}";
        NullGuard guard = Due.typed(chain);
        Due.sureAre(guard, 20, "22222");
        Due.sureAre(guard, 21, "11111");
        Due.sureAre(guard, chain.length(), "11111");
        String kept = "a=N;b=N;c=N;d=N;e=N;*%{a=b;b=c;c=d;d=e;e=a;}";
        Due.sureAre(Due.typed(kept), 21, "22222");
        String links = "a.h=N;b=a;c=a;d=a;*%{a=b;b=c;c=d;d=n;}";
        Due.linkedAre(Due.typed(links), 18, "abcd.");
        Due.linkedAre(Due.typed(links), 19, ".....");
        // All are LINKED at first; when the last of them is not so any more, they are lost one by one.
        String twice = "a.h=N;b=a;c=a;d=a;e=a;*%{a=b;b=c;c=d;d=e;e=a.h;}";
        Due.sureAre(Due.typed(twice), 22, "22222");
        Due.linkedAre(Due.typed(twice), 22, "abcde");
        Due.sureAre(Due.typed(twice), 23, "21111");
        Due.linkedAre(Due.typed(twice), 23, ".....");
        alarmIs("", twice, 41, 1);
        String deep = "a=N;*%{*%{*%{*%{*%{*%{a=b;b=c;c=n;}}}}}}";
        Due.is("lost in the innermost of six loops", 1, Due.typed(deep).sure(5, 0));
        manyRounds();
    }

    /**
     * What is lost in the innermost of six loops comes out of them one by one, and then the next is
     * lost: going over all places in their order, the 33rd round still changes a state.
     */
    private static void manyRounds() {
        NullGuard guard = Due.typed("e.h=N;d=e;a=e;*%{b=a;c=e;*%{*%{*%{*%{*%{e=d.h;a=c;}*%{d=b;}}}}}}");
        Due.sureAre(guard, 14, "21122");
        Due.linkedAre(guard, 14, "a..de");
        for (int p : new int[] {15, 17, 21, 25, 26, 28, 29, 31, 32, 34, 35, 37, 38, 40, 51, 52, 54, 64}) {
            Due.sureAre(guard, p, "11111");
            Due.linkedAre(guard, p, ".....");
        }
        Due.is("alarm of the use in the innermost loop", 1, guard.alarm(40));
        Due.sureAre(guard, 46, "11121");
    }

    private static void nothingFromUnreached() {
        Due.sentence("From an UNREACHED state nothing flows.");
        sureAtEnd("a.h=N;?%{^;a=n;!;}", "21111");
        linkedAtEnd("a.h=N;?%{^;a=n;!;}", "a....");
        NullGuard guard = Due.typed("^;?a{!;}{!;}*%{!;}");
        for (int p : new int[] {2, 3, 5, 9, 12, 13, 15, 18}) {
            Due.sureAre(guard, p, "00000");
            Due.linkedAre(guard, p, ".....");
        }
        Due.is("no alarm either", 0, Due.typed("^;a.g=n;?b.h{}").alarms());
    }

    private static void using() {
        Due.sentence("USING a local v: if v is not SURE, it is an ALARM of kind 1 at this place;"
            + " v is SURE after that.");
        alarmIs("", "b=a.g;", 0, 1);
        alarmIs("a", "b=a.g;", 0, 0);
        alarmIs("", "b=a.g;b=a.g;", 6, 0);
        sureAtEnd("b=a.h;", "21111");
        sureAtEnd("a.h=n;", "21111");
        sureAtEnd("?a.g{}", "21111");
        // One that is used twice at one place.
        alarmIs("", "a.h=a.h;", 0, 1);
        // One that is no longer sure in the same statement.
        alarmIs("", "a=a.h;", 0, 1);
        sureAtEnd("a=a.h;", "11111");
    }

    // Terms: values

    private static void valueNothing() {
        Due.sentence("A VALUE is SURE or not: n is not.");
        sureAtEnd("a=N;a=n;", "11111");
        linkedAtEnd("a.h=N;b=n;", "a....");
    }

    private static void valueNew() {
        Due.sentence("N is.");
        sureAtEnd("a=N;", "21111");
        linkedAtEnd("a.h=N;b=N;a=N;", ".....");
        alarmIs("a", "a=N;", 0, 0);
    }

    private static void valueAsked() {
        Due.sentence("@ is not, and no local is LINKED any more.");
        sureAtEnd("a=N;a=@;", "11111");
        linkedAtEnd("a.h=N;e.h=N;c=@;", ".....");
        linkedAtEnd("a.h=N;e.h=N;a.g=@;", ".....");
        sureAtEnd("a.h=N;e.h=N;c=@;", "21112");
        alarmIs("a", "a.g=@;", 0, 2);
    }

    private static void valueLocal() {
        Due.sentence("A local w is SURE if w is.");
        sureAtEnd("b=N;a=b;", "22111");
        sureAtEnd("a=N;a=b;", "11111");
        sureAtEnd("a=a;", "11111");
        sureAtEnd("a=N;a=a;", "21111");
        // It is not used by that.
        alarmIs("", "a=b;", 0, 0);
    }

    private static void valueFieldG() {
        Due.sentence("w.g is, w being used.");
        sureAtEnd("a=b.g;", "22111");
        alarmIs("", "a=b.g;", 0, 1);
        alarmIs("ab", "a=b.g;", 0, 0);
        sureAtEnd("a=a.g;", "21111");
    }

    private static void valueFieldH() {
        Due.sentence("w.h is SURE if w is LINKED, w being used.");
        sureAtEnd("b.h=N;a=b.h;", "22111");
        sureAtEnd("b=N;a=b.h;", "12111");
        alarmIs("", "a=b.h;", 0, 1);
        sureAtEnd("a=b.h;", "12111");
        alarmIs("ab", "a=b.h;", 0, 2);
        alarmIs("ab", "b.h=b;a=b.h;", 6, 0);
        sureAtEnd("a.h=N;a=a.h;", "21111");
    }

    // Terms: statements

    private static void writeToSolid() {
        Due.sentence("if it is not SURE and v is SOLID, it is an ALARM of kind 2 here, and v stays SURE");
        for (String value : new String[] {"n", "@", "b", "a.h"}) {
            NullGuard guard = typed("a", "a=" + value + ";");
            Due.is("alarm of " + value, 2, guard.alarm(0));
            Due.is("sure after " + value, 2, guard.sure(3 + value.length(), 0));
        }
        alarmIs("a", "a=b.h;", 0, 3);
        alarmIs("a", "b=n;", 0, 0);
    }

    private static void writeToLocal() {
        Due.sentence("otherwise v is SURE if and only if the value is.");
        sureAtEnd("a=N;a=n;", "11111");
        sureAtEnd("a=n;a=N;", "21111");
        Due.sureAre(typed("a", "a=N;"), 4, "21111");
        // Once LOOSE, it may hold nothing, whatever it was declared before.
        NullGuard guard = typed("a", "a=n;");
        guard.declare(0, false);
        Due.is("alarm of a loose one", 0, guard.alarm(0));
        Due.sureAre(guard, 4, "11111");
    }

    private static void linkedByWrite() {
        Due.sentence("v is LINKED then if the value is a local that is LINKED, else not.");
        linkedAtEnd("b.h=N;a=b;", "ab...");
        linkedAtEnd("a.h=N;a=b;", ".....");
        linkedAtEnd("a.h=N;a=a;", "a....");
        linkedAtEnd("a.h=N;a=a.g;", ".....");
        linkedAtEnd("a.h=N;a=a.h;", ".....");
        linkedAtEnd("a.h=N;a=N;", ".....");
        linkedAtEnd("a.h=N;a=n;", ".....");
        // A SOLID one that stays SURE loses it all the same.
        Due.linkedAre(typed("a", "a.h=a;a=n;"), 10, ".....");
        Due.linkedAre(typed("ab", "a.h=a;b=a;"), 10, "ab...");
    }

    private static void writeFieldG() {
        Due.sentence("v.g = value: the value; v is used; if the value is not SURE, it is an ALARM of kind 2 here.");
        alarmIs("a", "a.g=n;", 0, 2);
        alarmIs("a", "a.g=a;", 0, 0);
        alarmIs("", "a.g=N;", 0, 1);
        alarmIs("", "a.g=n;", 0, 3);
        // The value comes first: a is not SURE as a value, but is by a value that uses it.
        alarmIs("", "a.g=a;", 0, 3);
        alarmIs("", "a.g=a.g;", 0, 1);
        sureAtEnd("a.g=n;", "21111");
        linkedAtEnd("a.h=N;b.h=N;a.g=n;", "ab...");
        linkedAtEnd("a.g=N;", ".....");
    }

    private static void writeFieldH() {
        Due.sentence("v.h = value: the value; v is used; then, if the value is SURE, v is LINKED,"
            + " otherwise no local is LINKED any more.");
        linkedAtEnd("a.h=N;", "a....");
        linkedAtEnd("a.h=N;b.h=N;", "ab...");
        linkedAtEnd("a.h=N;b.h=N;c.h=n;", ".....");
        linkedAtEnd("a.h=N;b.h=a.h;", "ab...");
        linkedAtEnd("a.h=N;b.h=c;", ".....");
        linkedAtEnd("a.h=N;a.h=b.h;", ".....");
        alarmIs("", "a.h=n;", 0, 1);
        alarmIs("a", "a.h=n;", 0, 0);
        // The value comes first here, too.
        linkedAtEnd("a.h=a;", ".....");
        linkedAtEnd("a.h=a.g;", "a....");
        linkedAtEnd("a.h=N;a.h=a.h;", "a....");
    }

    private static void call() {
        Due.sentence("! (a call) : no local is LINKED any more.");
        linkedAtEnd("a.h=N;e.h=N;!;", ".....");
        sureAtEnd("a.h=N;e.h=N;!;", "21112");
        Due.linkedAre(Due.typed("a.h=N;!;"), 6, "a....");
    }

    private static void stop() {
        Due.sentence("^ : nothing flows on from here.");
        Due.sureAre(Due.typed("a=N;^;"), 4, "21111");
        sureAtEnd("a=N;^;", "00000");
        sureAtEnd("^;", "00000");
        sureAtEnd("?%{a=n;^;}a=N;", "21111");
    }

    // Terms: the ways

    private static void waysOfStatements() {
        Due.sentence("flow on to the next statement of their block; behind the last one of a block,"
            + " to what follows the statement to which the block belongs (for a * : to its first atom again);"
            + " behind the program's last one, to the END.");
        Due.sureAre(Due.typed("?%{a=N;!;}{b=N;!;}!;"), 7, "21111");
        Due.sureAre(Due.typed("?%{a=N;!;}{b=N;!;}!;"), 15, "12111");
        Due.sureAre(Due.typed("?%{a=N;}{a=N;}!;"), 14, "21111");
        sureAtEnd("?%{a=N;}{a=N;}", "21111");
        // From a loop's end one does not come past its condition.
        sureAtEnd("*~a{a=N;}", "21111");
        Due.sureAre(Due.typed("a=N;*%{a=n;}"), 4, "21111");
        Due.sureAre(Due.typed("a=N;*%{a=n;}"), 5, "11111");
        Due.sureAre(Due.typed("a=N;*%&b{a=n;}"), 7, "11111");
        // Out of six blocks at once.
        sureAtEnd("a=N;" + "?%{".repeat(6) + "a=n;" + "}".repeat(6), "11111");
        Due.sureAre(Due.typed("a=N;*%{" + "?%{".repeat(5) + "a=n;" + "}".repeat(6)), 5, "11111");
    }

    private static void headsFlowUnchanged() {
        Due.sentence("? and * flow, unchanged, to the first atom of their condition.");
        for (String head : new String[] {"?", "*"}) {
            NullGuard guard = Due.typed("a.h=N;" + head + "b{}");
            Due.sureAre(guard, 7, "21111");
            Due.linkedAre(guard, 7, "a....");
            Due.is("alarm of " + head, 0, Due.typed(head + "a.g{}").alarm(0));
        }
    }

    private static void atomOfChance() {
        Due.sentence("% unchanged both ways.");
        NullGuard guard = Due.typed("a.h=N;?%{!;}{!;}");
        for (int p : new int[] {9, 13}) {
            Due.sureAre(guard, p, "21111");
            Due.linkedAre(guard, p, "a....");
        }
    }

    private static void atomOfLocal() {
        Due.sentence("v is SURE the TRUE way, unchanged the other.");
        Due.sureAre(Due.typed("?a{!;}{!;}"), 3, "21111");
        Due.sureAre(Due.typed("?a{!;}{!;}"), 7, "11111");
        // The other way is not taken for impossible, nor does a lose what it has.
        Due.sureAre(Due.typed("a=N;?a{!;}{!;}"), 11, "21111");
        Due.sureAre(Due.typed("a=n;?a{!;}{!;}"), 7, "21111");
        Due.linkedAre(Due.typed("a.h=N;?a{!;}{!;}"), 13, "a....");
        Due.linkedAre(Due.typed("?a{!;}{!;}"), 3, ".....");
        alarmIs("", "?a{}", 1, 0);
        // Where both ways lead to one place, their join is there.
        sureAtEnd("?a{}", "11111");
        sureAtEnd("?a{}{}", "11111");
    }

    private static void atomOfFieldG() {
        Due.sentence("v.g : v is used; both ways alike.");
        NullGuard guard = Due.typed("?a.g{!;}{!;}");
        Due.is("alarm", 1, guard.alarm(1));
        for (int p : new int[] {5, 9}) {
            Due.sureAre(guard, p, "21111");
            Due.linkedAre(guard, p, ".....");
        }
        alarmIs("a", "?a.g{}", 1, 0);
    }

    private static void atomOfFieldH() {
        Due.sentence("v.h : v is used; v is LINKED the TRUE way.");
        NullGuard guard = Due.typed("?a.h{!;}{!;}");
        Due.is("alarm", 1, guard.alarm(1));
        Due.sureAre(guard, 5, "21111");
        Due.sureAre(guard, 9, "21111");
        Due.linkedAre(guard, 5, "a....");
        Due.linkedAre(guard, 9, ".....");
        Due.linkedAre(Due.typed("a.h=N;?a.h{!;}{!;}"), 15, "a....");
        alarmIs("a", "?a.h{}", 1, 0);
        linkedAtEnd("?a.h{}", ".....");
    }

    private static void atomTurned() {
        Due.sentence("With ~ the two ways are exchanged.");
        Due.sureAre(Due.typed("?~a{!;}{!;}"), 4, "11111");
        Due.sureAre(Due.typed("?~a{!;}{!;}"), 8, "21111");
        Due.linkedAre(Due.typed("?~a.h{!;}{!;}"), 6, ".....");
        Due.linkedAre(Due.typed("?~a.h{!;}{!;}"), 10, "a....");
        Due.sureAre(Due.typed("?~a.g{!;}{!;}"), 6, "21111");
        Due.sureAre(Due.typed("?~a.g{!;}{!;}"), 10, "21111");
        sureAtEnd("?~a{^;}", "21111");
    }

    private static void waysWhenTrue() {
        Due.sentence("An atom that is TRUE goes to the next atom of its clause;"
            + " the last one of a clause to the (first) block.");
        Due.sureAre(Due.typed("?a&b{!;}"), 3, "21111");
        Due.sureAre(Due.typed("?a&b{!;}"), 5, "22111");
        Due.sureAre(Due.typed("?a&b&c{!;}{!;}"), 7, "22211");
        // From the last atom of a clause that is not the last, past the next clause.
        Due.sureAre(Due.typed("?a&b|c{!;}"), 7, "11111");
        Due.sureAre(Due.typed("?a&b|a&c{!;}"), 9, "21111");
        Due.sureAre(Due.typed("*a|a{!;}"), 5, "21111");
    }

    private static void waysWhenFalse() {
        Due.sentence("An atom that is FALSE goes to the first atom of the next clause; in the last clause"
            + " to the second block, or, without one, and for a *, to what follows the statement.");
        Due.sureAre(Due.typed("?~a|b{!;}{!;}"), 4, "21111");
        Due.sureAre(Due.typed("?~a&~b|c{!;}"), 7, "11111");
        Due.sureAre(Due.typed("?~a&~a|c{!;}"), 7, "21111");
        Due.sureAre(Due.typed("?~a|~b{!;}{!;}"), 11, "22111");
        Due.sureAre(Due.typed("?~a|~b{^;}!;"), 10, "22111");
        Due.sureAre(Due.typed("*~a|~b{}!;"), 8, "22111");
        sureAtEnd("*~a|~b{}", "22111");
        sureAtEnd("?~a|~b{^;}", "22111");
        // An earlier atom of the last clause goes there as well as its last one.
        Due.sureAre(Due.typed("?~a|~b&~c{!;}{!;}"), 14, "21111");
    }

    private static void waysOfEmptyBlocks() {
        Due.sentence("(Where a block is empty, or nothing follows, it goes where one would come from its end.)");
        Due.sureAre(Due.typed("?a{}{^;}!;"), 8, "21111");
        Due.sureAre(Due.typed("?a{^;}{}!;"), 8, "11111");
        sureAtEnd("?~a{^;}{}", "21111");
        sureAtEnd("?a{}{^;}", "21111");
        // An empty loop goes to its own atom, so what its condition shows does not come out.
        Due.sureAre(Due.typed("*a{}"), 1, "11111");
        sureAtEnd("*~a{}", "21111");
        // Where nothing follows in the block: to the atom of the loop that it belongs to, or outside.
        Due.sureAre(Due.typed("a=N;*%{?b{}{a=n;}}"), 5, "11111");
        Due.sureAre(Due.typed("a=N;*%{*b{a=n;}}"), 5, "11111");
        Due.sureAre(Due.typed("*%{?b{}}"), 1, "11111");
        sureAtEnd("?%{?~a{^;}}{a=N;}", "21111");
        sureAtEnd("?%{}{?%{}{?%{}{?%{}{?%{}{?~a{}{^;}}}}}}", "11111");
        sureAtEnd("?%{?%{?%{?%{?%{?~a{^;}}{^;}}{^;}}{^;}}{^;}}{^;}", "21111");
    }

    // Terms: alarms; promises 7 to 10

    private static void alarmsOfFinalStates() {
        Due.sentence("An ALARM is at a place if the final state there (or what flows from it) makes it so.");
        // At first a is SURE there; the way round the loop takes it away.
        alarmIs("", "a=N;*%{b=a.g;a=n;}", 7, 1);
        alarmIs("", "a=N;*%{b=a.g;a=N;}", 7, 0);
        alarmIs("", "a=N;*a.g{a=n;}", 5, 1);
        alarmIs("e", "a.h=N;*%{e=a.h;!;}", 9, 2);
        alarmIs("e", "a.h=N;*%{e=a.h;}", 9, 0);
        // At first there is one kind, in the end there are both.
        alarmIs("e", "a=N;*%{e=a.h;a=n;}", 7, 3);
        // By what flows from it: a is SURE when it is used the second time in one statement.
        alarmIs("", "a.g=a.g;", 0, 1);
    }

    private static void countedAlarms() {
        Due.sentence("How many places that count have an alarm");
        Due.is("none in the empty text", 0, Due.typed("").alarms());
        // A place where a statement gives both kinds counts once.
        Due.is("both kinds at one place", 1, Due.typed("a.g=n;").alarms());
        Due.is("both kinds at two places", 2, Due.typed("a.g=n;b.g=@;").alarms());
        Due.is("both kinds in a SOLID local", 1, typed("c", "c=a.h;").alarms());
        Due.is("one kind at each place", 2, typed("c", "c=n;a.h=n;").alarms());
        Due.is("an atom's place", 1, Due.typed("?a.g&a.h{}").alarms());
        Due.is("as many as can be", 16, typed("a", "a=n;".repeat(16)).alarms());
        Due.is("the END has none", 0, Due.typed("a=n;").alarm(4));
        Due.is("at unreached places none", 0, typed("a", "^;a=n;b.g=n;").alarms());
    }

    private static void alarmsOfNoProgram() {
        Due.sentence("How many places that count have an alarm; NONE if the text is no program.");
        NullGuard guard = Due.typed("a.g=n;");
        Due.is("alarms", 1, guard.alarms());
        guard.type('?');
        Due.is("alarms of no program", NONE, guard.alarms());
        guard.type(Due.part("%{}"));
        Due.is("alarms of a program again", 1, guard.alarms());
    }

    private static void kindsOfAlarm() {
        Due.sentence("The alarms at place p: 1 for kind 1, 2 for kind 2, 3 for both, 0 for none");
        NullGuard guard = typed("e", "a.h=n;e=n;b.g=n;c=c;");
        Due.is("kind 1", 1, guard.alarm(0));
        Due.is("kind 2", 2, guard.alarm(6));
        Due.is("both", 3, guard.alarm(10));
        Due.is("none", 0, guard.alarm(16));
        Due.is("END", 0, guard.alarm(20));
        Due.is("unreached", 0, Due.typed("^;a.g=n;").alarm(2));
    }

    private static void alarmOfNoPlace() {
        Due.sentence("3 for both, 0 for none; NONE if the text is no program or p is no place that counts.");
        NullGuard guard = Due.typed("a.g=n;");
        for (int p : NO_PLACES) {
            Due.is("alarm(" + p + ")", NONE, guard.alarm(p));
        }
        for (int p = 1; p < 6; p++) {
            Due.is("alarm(" + p + ")", NONE, guard.alarm(p));
        }
        Due.is("behind the END", NONE, guard.alarm(7));
        Due.is("behind the END of a full text", NONE, Due.typed("!;".repeat(32)).alarm(65));
        guard.type('x');
        for (int p = -1; p <= 8; p++) {
            Due.is("alarm(" + p + ") of no program", NONE, guard.alarm(p));
        }
        // A place of the text before is none of this one.
        guard.wipe();
        Due.type(guard, "!;!;!;!;");
        guard.wipe();
        Due.type(guard, "a=n;");
        Due.is("alarm of an old place", NONE, guard.alarm(2));
        Due.is("alarm of an old END", NONE, guard.alarm(8));
    }

    private static void sureOfUnreached() {
        Due.sentence("0 if its state is UNREACHED, 2 if v is SURE, else 1");
        NullGuard guard = typed("b", "a=N;^;!;");
        Due.sureAre(guard, 0, "12111");
        Due.sureAre(guard, 4, "22111");
        Due.sureAre(guard, 6, "00000");
        Due.sureAre(guard, 8, "00000");
    }

    private static void sureOfNone() {
        Due.sentence("else 1; NONE if the text is no program, p is no place that counts, or v is not 0 .. 4.");
        NullGuard guard = typed("abcde", "a.h=a;^;");
        for (int v : Due.NO_LOCALS) {
            Due.is("sure(0, " + v + ")", NONE, guard.sure(0, v));
            Due.is("sure(6, " + v + ")", NONE, guard.sure(6, v));
            Due.is("sure(8, " + v + "), unreached", NONE, guard.sure(8, v));
        }
        for (int p : NO_PLACES) {
            Due.is("sure(" + p + ", 0)", NONE, guard.sure(p, 0));
            Due.is("sure(" + p + ", 5)", NONE, guard.sure(p, 5));
        }
        Due.is("inside a statement", NONE, guard.sure(1, 0));
        Due.is("behind the END", NONE, guard.sure(9, 0));
        guard.type('x');
        for (int p : new int[] {0, 6, 8, 9}) {
            Due.is("sure(" + p + ", 0) of no program", NONE, guard.sure(p, 0));
        }
    }

    private static void linkedOfNone() {
        Due.sentence("false also if that is UNREACHED, the text is no program, p is no place that counts,"
            + " or v is not 0 .. 4.");
        NullGuard guard = typed("abcde", "a.h=a;b=a;c=a;d=a;e=a;^;");
        Due.linkedAre(guard, 22, "abcde");
        Due.linkedAre(guard, 24, ".....");
        for (int v : Due.NO_LOCALS) {
            Due.is("linked(22, " + v + ")", false, guard.linked(22, v));
            Due.is("linked(24, " + v + "), unreached", false, guard.linked(24, v));
        }
        for (int p : NO_PLACES) {
            Due.is("linked(" + p + ", 0)", false, guard.linked(p, 0));
        }
        Due.is("inside a statement", false, guard.linked(7, 0));
        Due.is("behind the END", false, guard.linked(25, 0));
        guard.type('x');
        Due.linkedAre(guard, 22, ".....");
    }
}
