import java.util.Arrays;

/**
 * Checks small programs over references for uses of nothing, by what is known at each place on all
 * ways that lead there, and runs them: what the checker lets pass never uses nothing when it is run.
 */
public final class NullGuard {
    /** There is none. */
    public static final int NONE = -1;

    private static final int LOCALS = 5;
    private static final int MAX_TEXT = 64;
    private static final int MAX_DEPTH = 6;

    /** A full text has 64 places, and its END is one more. */
    private static final int PLACES = MAX_TEXT + 1;

    // What stands at a place.
    private static final int NO_PLACE = 0;
    private static final int WRITE = 1;
    private static final int SPLIT = 2;
    private static final int CALL = 3;
    private static final int STOP = 4;
    private static final int ATOM = 5;
    private static final int END = 6;

    // What a value, the target of a write, or an atom names.
    private static final int WHOLE = 0;
    private static final int FIELD_G = 1;
    private static final int FIELD_H = 2;
    private static final int NOTHING = 3;
    private static final int NEW = 4;
    private static final int ASKED = 5;
    private static final int CHANCE = 6;

    // The kinds of an alarm, and what a run ends with, which are the same for the same fault.
    private static final int FINE = 0;
    private static final int USED_NOTHING = 1;
    private static final int GAVE_NOTHING = 2;
    private static final int TOO_LONG = 3;

    private final Program program;
    private final Checker checker;
    private final Machine machine;

    /** Bit v is 1 if local v is SOLID. */
    private int solidLocals;

    /** Many calls ask about one program, so it is checked once, by the first that needs it. */
    private boolean checked;

    public NullGuard() {
        program = new Program();
        checker = new Checker();
        machine = new Machine();
    }

    public boolean type(long part) {
        if (!program.append(part)) {
            return false;
        }
        program.parse();
        checked = false;
        return true;
    }

    public void wipe() {
        program.clear();
        program.parse();
        checked = false;
    }

    public int length() {
        return program.size;
    }

    public boolean declare(int v, boolean solid) {
        if (!isLocal(v)) {
            return false;
        }
        int bit = 1 << v;
        solidLocals = solid ? solidLocals | bit : solidLocals & ~bit;
        checked = false;
        return true;
    }

    public int statements() {
        return program.valid ? program.statementCount : NONE;
    }

    public int alarms() {
        return program.valid ? knowledge().countAlarms() : NONE;
    }

    public int alarm(int p) {
        return program.counts(p) ? knowledge().alarmsAt[p] : NONE;
    }

    public int sure(int p, int v) {
        if (!program.counts(p) || !isLocal(v)) {
            return NONE;
        }
        if (!knowledge().isReached(p)) {
            return 0;
        }
        return knowledge().isSureAt(p, v) ? 2 : 1;
    }

    public boolean linked(int p, int v) {
        return program.counts(p) && isLocal(v) && knowledge().isReached(p) && knowledge().isLinkedAt(p, v);
    }

    public int run(int start, long oracle) {
        return program.valid ? machine.execute(program, solidLocals, start, oracle) : NONE;
    }

    public int held(int v) {
        return isLocal(v) ? machine.holds[v] : NONE;
    }

    public int field(int o, int f) {
        if (o < 0 || o >= machine.objectCount) {
            return NONE;
        }
        if (f == 0) {
            return machine.fieldG[o];
        }
        return f == 1 ? machine.fieldH[o] : NONE;
    }

    public int objects() {
        return machine.objectCount;
    }

    public int steps() {
        return machine.stepCount;
    }

    /** Only to be asked for once the text is known to be a program. */
    private Checker knowledge() {
        if (!checked) {
            checker.check(program, solidLocals);
            checked = true;
        }
        return checker;
    }

    private static boolean isLocal(int v) {
        return v >= 0 && v < LOCALS;
    }

    /**
     * The text and, if it is a program, what stands at its places and where the ways go from there.
     * All rows are made once, to be used again for every text, since all objects share one room.
     */
    private static final class Program {
        /** Returned instead of a place where the text is not built as it must be. */
        private static final int BROKEN = -1;

        private final char[] text = new char[MAX_TEXT];
        int size;
        boolean valid;
        int statementCount;

        final int[] kind = new int[PLACES];

        /** The local that is written, or that the atom names. */
        final int[] local = new int[PLACES];

        /** What of that local: WHOLE, FIELD_G or FIELD_H; or CHANCE for the atom %. */
        final int[] part = new int[PLACES];

        /** What is written, and the local it is taken from, if it is from one. */
        final int[] value = new int[PLACES];
        final int[] source = new int[PLACES];

        /** The way on; for an atom, the way if what it names holds an object (or the bit is 1). */
        final int[] way = new int[PLACES];

        /** For an atom, the way if what it names holds nothing (or the bit is 0). */
        final int[] otherWay = new int[PLACES];

        /** For the '}' of a block: where one goes from the block's end. */
        private final int[] exit = new int[PLACES];

        // The conditions whose blocks are being read, the outermost first: the place of the ? or *, of
        // its first '{', and of its first '}' once its second block has begun, else NONE.
        private final int[] heads = new int[MAX_DEPTH];
        private final int[] opens = new int[MAX_DEPTH];
        private final int[] firstCloses = new int[MAX_DEPTH];
        private int depth;

        Program() {
            parse();
        }

        boolean append(long typed) {
            int added = countCharacters(typed);
            if (added == BROKEN || size + added > MAX_TEXT) {
                return false;
            }
            for (int shift = 56; shift >= 0; shift -= 8) {
                int c = byteOf(typed, shift);
                if (c != 0) {
                    text[size] = (char) c;
                    size++;
                }
            }
            return true;
        }

        void clear() {
            size = 0;
        }

        boolean counts(int p) {
            return valid && p >= 0 && p <= size && kind[p] != NO_PLACE;
        }

        void parse() {
            Arrays.fill(kind, NO_PLACE);
            statementCount = 0;
            depth = 0;
            int at = 0;
            for (int i = 0; i < MAX_TEXT && at >= 0 && at < size; i++) {
                at = charAt(at) == '}' ? closeBlock(at) : readStatement(at);
            }
            valid = at == size && depth == 0;
            if (valid) {
                kind[size] = END;
                leadWaysOutOfBlocks();
            }
        }

        private static int byteOf(long typed, int shift) {
            return (int) (typed >>> shift) & 255;
        }

        private static int countCharacters(long typed) {
            int count = 0;
            for (int shift = 56; shift >= 0; shift -= 8) {
                int c = byteOf(typed, shift);
                if (c != 0 && (c < 33 || c > 126)) {
                    return BROKEN;
                }
                count += c != 0 ? 1 : 0;
            }
            return count;
        }

        /** Answers for every place, BROKEN too, so that the readers need not look at it first. */
        private char charAt(int at) {
            return at >= 0 && at < size ? text[at] : 0;
        }

        // The readers answer the place where reading goes on, or BROKEN.

        /** Reads a statement; of a ? or * only up to where its first block begins. */
        private int readStatement(int at) {
            statementCount++;
            char first = charAt(at);
            if (first == '?' || first == '*') {
                return openBlock(at, readCondition(at));
            }
            if (first == '!') {
                return readSign(at, CALL);
            }
            if (first == '^') {
                return readSign(at, STOP);
            }
            return readWrite(at);
        }

        private int readSign(int at, int meaning) {
            kind[at] = meaning;
            way[at] = at + 2;
            return charAt(at + 1) == ';' ? at + 2 : BROKEN;
        }

        private int readWrite(int at) {
            int target = partAt(at);
            int sign = behind(at, target);
            if (target == BROKEN || charAt(sign) != '=') {
                return BROKEN;
            }
            int given = valueAt(sign + 1);
            int semicolon = behind(sign + 1, given);
            if (given == BROKEN || charAt(semicolon) != ';') {
                return BROKEN;
            }
            kind[at] = WRITE;
            local[at] = localOf(charAt(at));
            part[at] = target;
            value[at] = given;
            source[at] = localOf(charAt(sign + 1));
            way[at] = semicolon + 1;
            return semicolon + 1;
        }

        /** Reads a ? or * and its atoms. */
        private int readCondition(int at) {
            kind[at] = SPLIT;
            way[at] = at + 1;
            int next = readAtom(at + 1);
            for (int i = 0; i < MAX_TEXT && (charAt(next) == '&' || charAt(next) == '|'); i++) {
                next = readAtom(next + 1);
            }
            return next;
        }

        private int openBlock(int head, int open) {
            if (charAt(open) != '{' || depth >= MAX_DEPTH) {
                return BROKEN;
            }
            heads[depth] = head;
            opens[depth] = open;
            firstCloses[depth] = NONE;
            depth++;
            return open + 1;
        }

        private int closeBlock(int close) {
            if (depth == 0) {
                return BROKEN;
            }
            int top = depth - 1;
            boolean loop = charAt(heads[top]) == '*';
            if (!loop && firstCloses[top] == NONE && charAt(close + 1) == '{') {
                firstCloses[top] = close;
                return close + 2;
            }
            depth--;
            int end = close + 1;
            int ifFalse = end;
            exit[close] = loop ? heads[top] + 1 : end;
            if (firstCloses[top] != NONE) {
                exit[firstCloses[top]] = end;
                ifFalse = firstCloses[top] + 2;
            }
            linkAtoms(heads[top] + 1, opens[top], ifFalse);
            return end;
        }

        private int readAtom(int at) {
            if (charAt(at) == '%') {
                kind[at] = ATOM;
                part[at] = CHANCE;
                return at + 1;
            }
            int name = charAt(at) == '~' ? at + 1 : at;
            int named = partAt(name);
            if (named == BROKEN) {
                return BROKEN;
            }
            kind[at] = ATOM;
            local[at] = localOf(charAt(name));
            part[at] = named;
            return behind(name, named);
        }

        private static int localOf(char c) {
            return c >= 'a' && c <= 'e' ? c - 'a' : NONE;
        }

        /** What a local, with or without a field, names here; BROKEN if there is no such. */
        private int partAt(int at) {
            if (localOf(charAt(at)) == NONE) {
                return BROKEN;
            }
            if (charAt(at + 1) != '.') {
                return WHOLE;
            }
            char field = charAt(at + 2);
            if (field == 'g') {
                return FIELD_G;
            }
            return field == 'h' ? FIELD_H : BROKEN;
        }

        private int valueAt(int at) {
            char c = charAt(at);
            if (c == 'n') {
                return NOTHING;
            }
            if (c == 'N') {
                return NEW;
            }
            return c == '@' ? ASKED : partAt(at);
        }

        private static int behind(int at, int named) {
            return named == FIELD_G || named == FIELD_H ? at + 3 : at + 1;
        }

        /** Goes backward, because where an atom leads to is what stands behind it. */
        private void linkAtoms(int first, int open, int ifFalse) {
            int trueTo = open + 1;
            int falseTo = ifFalse;
            for (int p = open - 1; p >= first; p--) {
                if (charAt(p) == '|') {
                    falseTo = trueTo;
                    trueTo = open + 1;
                } else if (kind[p] == ATOM) {
                    boolean turned = charAt(p) == '~';
                    way[p] = turned ? falseTo : trueTo;
                    otherWay[p] = turned ? trueTo : falseTo;
                    trueTo = p;
                }
            }
        }

        /** The readers let ways end at a '}', since what follows it is read only later. */
        private void leadWaysOutOfBlocks() {
            for (int p = 0; p < size; p++) {
                if (kind[p] != NO_PLACE) {
                    way[p] = outOfBlocks(way[p]);
                }
                if (kind[p] == ATOM) {
                    otherWay[p] = outOfBlocks(otherWay[p]);
                }
            }
        }

        private int outOfBlocks(int at) {
            int place = at;
            for (int i = 0; i < MAX_DEPTH && charAt(place) == '}'; i++) {
                place = exit[place];
            }
            return place;
        }
    }

    /**
     * The states and alarms of a program. A state is a row of bits: bit v is SURE, bit LOCALS + v is
     * LINKED. UNREACHED is all ones, so that "and" is the join for it, too.
     */
    private static final class Checker {
        private static final int UNREACHED = -1;
        private static final int ALL_LINKED = ((1 << LOCALS) - 1) << LOCALS;

        /**
         * The rounds end with one that changes no state. This bound never ends them before: a state
         * changes at most 11 times, first from UNREACHED and then losing one of its 10 bits or more.
         */
        private static final int MAX_ROUNDS = PLACES * (2 * LOCALS + 1) + 1;

        private final int[] states = new int[PLACES];
        final int[] alarmsAt = new int[PLACES];
        private boolean changed;

        // What is known, and the alarms found so far, while the work at one place is done.
        private int known;
        private int found;

        void check(Program program, int solid) {
            Arrays.fill(states, UNREACHED);
            Arrays.fill(alarmsAt, 0);
            states[0] = solid;
            changed = true;
            for (int round = 0; round < MAX_ROUNDS && changed; round++) {
                changed = false;
                for (int p = 0; p <= program.size; p++) {
                    if (isReached(p)) {
                        flowFrom(program, p, solid);
                    }
                }
            }
        }

        boolean isReached(int p) {
            return states[p] != UNREACHED;
        }

        boolean isSureAt(int p, int v) {
            return (states[p] & sureBit(v)) != 0;
        }

        boolean isLinkedAt(int p, int v) {
            return (states[p] & linkedBit(v)) != 0;
        }

        int countAlarms() {
            int count = 0;
            for (int p = 0; p < PLACES; p++) {
                count += alarmsAt[p] != 0 ? 1 : 0;
            }
            return count;
        }

        private static int sureBit(int v) {
            return 1 << v;
        }

        private static int linkedBit(int v) {
            return 1 << (LOCALS + v);
        }

        /** The last round goes over the final states, so the alarms that stay are theirs. */
        private void flowFrom(Program program, int p, int solid) {
            known = states[p];
            found = 0;
            switch (program.kind[p]) {
                case WRITE:
                    write(program, p, solid);
                    flowTo(program.way[p], known);
                    break;
                case SPLIT:
                    flowTo(program.way[p], known);
                    break;
                case CALL:
                    unlinkAll();
                    flowTo(program.way[p], known);
                    break;
                case ATOM:
                    flowFromAtom(program, p);
                    break;
                default:
                    break;
            }
            alarmsAt[p] = found;
        }

        private void flowTo(int p, int state) {
            int joined = states[p] & state;
            if (joined != states[p]) {
                states[p] = joined;
                changed = true;
            }
        }

        private void flowFromAtom(Program program, int p) {
            int v = program.local[p];
            int gained = 0;
            if (program.part[p] == WHOLE) {
                gained = sureBit(v);
            } else if (program.part[p] == FIELD_G) {
                use(v);
            } else if (program.part[p] == FIELD_H) {
                use(v);
                gained = linkedBit(v);
            }
            flowTo(program.way[p], known | gained);
            flowTo(program.otherWay[p], known);
        }

        private void write(Program program, int p, int solid) {
            int v = program.local[p];
            boolean valueSure = takeValue(program.value[p], program.source[p]);
            if (program.part[p] == WHOLE) {
                boolean valueLinked = program.value[p] == WHOLE && has(linkedBit(program.source[p]));
                writeLocal(v, valueSure, valueLinked, (solid & sureBit(v)) != 0);
                return;
            }
            use(v);
            if (program.part[p] == FIELD_H) {
                writeFieldH(v, valueSure);
            } else if (!valueSure) {
                found |= GAVE_NOTHING;
            }
        }

        private void writeLocal(int v, boolean valueSure, boolean valueLinked, boolean isSolid) {
            if (isSolid && !valueSure) {
                found |= GAVE_NOTHING;
            } else {
                set(sureBit(v), valueSure);
            }
            set(linkedBit(v), valueLinked);
        }

        private void writeFieldH(int v, boolean valueSure) {
            if (valueSure) {
                known |= linkedBit(v);
            } else {
                // Any other local may hold the same object.
                unlinkAll();
            }
        }

        /** Whether the value is SURE. */
        private boolean takeValue(int value, int source) {
            switch (value) {
                case NEW:
                    return true;
                case ASKED:
                    unlinkAll();
                    return false;
                case WHOLE:
                    return has(sureBit(source));
                case FIELD_G:
                    use(source);
                    return true;
                case FIELD_H:
                    use(source);
                    return has(linkedBit(source));
                default:
                    return false;
            }
        }

        private void use(int v) {
            if (!has(sureBit(v))) {
                found |= USED_NOTHING;
            }
            known |= sureBit(v);
        }

        private boolean has(int bit) {
            return (known & bit) != 0;
        }

        private void set(int bit, boolean on) {
            known = on ? known | bit : known & ~bit;
        }

        private void unlinkAll() {
            known &= ~ALL_LINKED;
        }
    }

    /** Runs programs and keeps what the latest run left. */
    private static final class Machine {
        private static final int MAX_OBJECTS = 8;
        private static final int MAX_STEPS = 200;
        private static final int RUNNING = -1;

        final int[] holds = new int[LOCALS];
        final int[] fieldG = new int[MAX_OBJECTS];
        final int[] fieldH = new int[MAX_OBJECTS];
        int objectCount;
        int stepCount;

        private long oracle;
        private int ending;

        Machine() {
            Arrays.fill(holds, NONE);
            stepCount = NONE;
        }

        /** Four times the place where the run ended, and what it ended with. */
        int execute(Program program, int solid, int start, long bits) {
            prepare(solid | start, bits);
            int place = 0;
            for (stepCount = 0; stepCount < MAX_STEPS; stepCount++) {
                int next = visit(program, place, solid);
                if (ending != RUNNING) {
                    return 4 * place + ending;
                }
                place = next;
            }
            return 4 * place + TOO_LONG;
        }

        private void prepare(int holding, long bits) {
            objectCount = 0;
            int first = makeObject();
            for (int v = 0; v < LOCALS; v++) {
                holds[v] = (holding >> v & 1) != 0 ? first : NONE;
            }
            oracle = bits;
            ending = RUNNING;
        }

        /** Does what stands at the place: where the run goes on, if it has not ended. */
        private int visit(Program program, int p, int solid) {
            switch (program.kind[p]) {
                case WRITE:
                    write(program, p, solid);
                    return program.way[p];
                case SPLIT:
                    return program.way[p];
                case CALL:
                    fieldH[existing(takeBits(2))] = NONE;
                    return program.way[p];
                case ATOM:
                    return isTrue(program.part[p], program.local[p]) ? program.way[p] : program.otherWay[p];
                default:
                    ending = FINE;
                    return p;
            }
        }

        private boolean isTrue(int part, int v) {
            if (part == CHANCE) {
                return takeBits(1) == 1;
            }
            return read(part, v) != NONE;
        }

        private void write(Program program, int p, int solid) {
            int v = program.local[p];
            int given = findValue(program.value[p], program.source[p]);
            if (ending != RUNNING) {
                return;
            }
            if (program.part[p] == WHOLE) {
                writeLocal(v, given, (solid >> v & 1) != 0);
            } else if (holds[v] == NONE) {
                ending = USED_NOTHING;
            } else if (program.part[p] == FIELD_H) {
                fieldH[holds[v]] = given;
            } else if (given == NONE) {
                ending = GAVE_NOTHING;
            } else {
                fieldG[holds[v]] = given;
            }
        }

        private void writeLocal(int v, int given, boolean isSolid) {
            if (isSolid && given == NONE) {
                ending = GAVE_NOTHING;
            } else {
                holds[v] = given;
            }
        }

        private int findValue(int value, int source) {
            switch (value) {
                case NOTHING:
                    return NONE;
                case NEW:
                    return makeObject();
                case ASKED:
                    return askOracle();
                default:
                    return read(value, source);
            }
        }

        private int askOracle() {
            int answer = takeBits(2);
            return answer == 0 ? NONE : existing(answer - 1);
        }

        private int makeObject() {
            if (objectCount >= MAX_OBJECTS) {
                return MAX_OBJECTS - 1;
            }
            int made = objectCount;
            fieldG[made] = made;
            fieldH[made] = NONE;
            objectCount++;
            return made;
        }

        private int read(int part, int v) {
            int object = holds[v];
            if (part == WHOLE) {
                return object;
            }
            if (object == NONE) {
                ending = USED_NOTHING;
                return NONE;
            }
            return part == FIELD_G ? fieldG[object] : fieldH[object];
        }

        /** The object of this number, or the one made last if there are not so many. */
        private int existing(int number) {
            return Math.min(number, objectCount - 1);
        }

        private int takeBits(int count) {
            int taken = (int) (oracle & ((1 << count) - 1));
            oracle >>>= count;
            return taken;
        }
    }
}
