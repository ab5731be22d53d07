import java.math.BigInteger;
import java.util.ArrayList;
import java.util.HashMap;
import java.util.List;
import java.util.Map;
import java.util.Set;
import java.util.TreeSet;
import java.util.regex.Pattern;

/**
 * The document written a second time, as plainly as can be and in another way than NullGuard: texts
 * are judged by a pattern, and programs are checked and run as trees.
 */
final class Model {
    private static final String NAME = "[a-e](\\.[gh])?";
    private static final String ATOM = "(%|~?" + NAME + ")";
    private static final String CONDITION = ATOM + "([&|]" + ATOM + ")*+";
    private static final String SIMPLE = "(" + NAME + "=(n|N|@|" + NAME + ");|!;|\\^;)";
    private static final Pattern PROGRAM = Pattern.compile(statements(6));

    private static String statements(int depth) {
        if (depth == 0) {
            return SIMPLE + "*+";
        }
        String block = "\\{" + statements(depth - 1) + "\\}";
        return "(" + SIMPLE + "|\\?" + CONDITION + block + "(" + block + ")?+|\\*" + CONDITION + block + ")*+";
    }

    static boolean isProgram(String text) {
        return PROGRAM.matcher(text).matches();
    }

    static int countStatements(String text) {
        return text.replaceAll("[^;?*]", "").length();
    }

    /** A statement: what is written where, or a condition with its blocks, or a sign. */
    private static final class Statement {
        int place;
        char sign;
        String target;
        String value;
        final List<List<Atom>> clauses = new ArrayList<>();
        List<Statement> first;
        List<Statement> second;
    }

    private record Atom(int place, boolean turned, String name) {
    }

    // Reading. The text is known to be a program, so nothing is looked at twice.

    private final String text;
    private int cursor;
    private final List<Statement> program;
    private final Set<Integer> counting;

    Model(String text, int solid) {
        this.text = text;
        this.solid = solid;
        program = readStatements();
        counting = countingPlaces(program);
        check();
    }

    private List<Statement> readStatements() {
        List<Statement> all = new ArrayList<>();
        while (cursor < text.length() && text.charAt(cursor) != '}') {
            all.add(readStatement());
        }
        return all;
    }

    private Statement readStatement() {
        Statement s = new Statement();
        s.place = cursor;
        s.sign = text.charAt(cursor);
        if (s.sign == '?' || s.sign == '*') {
            readCondition(s);
            s.first = readBlock();
            boolean more = cursor < text.length() && text.charAt(cursor) == '{';
            s.second = more ? readBlock() : new ArrayList<>();
            return s;
        }
        int end = text.indexOf(';', cursor);
        String[] sides = text.substring(cursor, end).split("=");
        s.target = sides[0];
        s.value = sides.length == 2 ? sides[1] : null;
        s.sign = s.value != null ? '=' : s.sign;
        cursor = end + 1;
        return s;
    }

    private void readCondition(Statement s) {
        int open = text.indexOf('{', cursor);
        int place = cursor + 1;
        for (String clause : text.substring(place, open).split("\\|")) {
            List<Atom> atoms = new ArrayList<>();
            for (String atom : clause.split("&")) {
                atoms.add(new Atom(place, atom.startsWith("~"), atom.replace("~", "")));
                place += atom.length() + 1;
            }
            s.clauses.add(atoms);
        }
        cursor = open;
    }

    private List<Statement> readBlock() {
        cursor++;
        List<Statement> block = readStatements();
        cursor++;
        return block;
    }

    private static String local(String name) {
        return name.substring(0, 1);
    }

    // Checking. A state is the set of what is known, "a" for SURE and "a.h" for LINKED, or null.

    private final int solid;
    private final Map<Integer, Set<String>> states = new HashMap<>();
    private final Map<Integer, Integer> alarms = new HashMap<>();

    private boolean isSolid(String local) {
        return (solid >> (local.charAt(0) - 'a') & 1) == 1;
    }

    private void check() {
        Set<String> start = new TreeSet<>();
        for (String local : List.of("a", "b", "c", "d", "e")) {
            if (isSolid(local)) {
                start.add(local);
            }
        }
        arrive(text.length(), flow(program, start));
    }

    private static Set<String> join(Set<String> one, Set<String> other) {
        if (one == null || other == null) {
            return one == null ? other : one;
        }
        Set<String> both = new TreeSet<>(one);
        both.retainAll(other);
        return both;
    }

    /** The state at the place, after this one has been joined to it; a copy to work on. */
    private Set<String> arrive(int place, Set<String> state) {
        if (state == null) {
            return null;
        }
        states.put(place, join(states.get(place), state));
        alarms.putIfAbsent(place, 0);
        return new TreeSet<>(states.get(place));
    }

    private void raise(int place, int kind) {
        alarms.merge(place, kind, (a, b) -> a | b);
    }

    private Set<String> flow(List<Statement> block, Set<String> in) {
        Set<String> state = in;
        for (Statement s : block) {
            state = state == null ? null : flow(s, arrive(s.place, state));
        }
        return state;
    }

    private Set<String> flow(Statement s, Set<String> state) {
        switch (s.sign) {
            case '?':
                List<Set<String>> ways = flowCondition(s, state);
                return join(flow(s.first, ways.get(0)), flow(s.second, ways.get(1)));
            case '*':
                return flowLoop(s, state);
            case '!':
                state.removeIf(fact -> fact.endsWith(".h"));
                return state;
            case '^':
                return null;
            default:
                flowWrite(s, state);
                return state;
        }
    }

    private Set<String> flowLoop(Statement s, Set<String> in) {
        Set<String> before = in;
        while (true) {
            List<Set<String>> ways = flowCondition(s, before);
            Set<String> after = join(before, flow(s.first, ways.get(0)));
            if (after.equals(before)) {
                return ways.get(1);
            }
            before = after;
        }
    }

    /** What flows to the TRUE side and to the FALSE side. */
    private List<Set<String>> flowCondition(Statement s, Set<String> in) {
        Set<String> isTrue = null;
        Set<String> isFalse = in;
        for (List<Atom> clause : s.clauses) {
            Set<String> inside = isFalse;
            isFalse = null;
            for (Atom atom : clause) {
                Set<String> not = arrive(atom.place, inside);
                if (not == null) {
                    break;
                }
                Set<String> is = flowAtom(atom, not);
                inside = atom.turned ? not : is;
                isFalse = join(isFalse, atom.turned ? is : not);
            }
            isTrue = join(isTrue, inside);
        }
        List<Set<String>> ways = new ArrayList<>();
        ways.add(isTrue);
        ways.add(isFalse);
        return ways;
    }

    private Set<String> flowAtom(Atom atom, Set<String> state) {
        if (atom.name.contains(".")) {
            use(atom.place, local(atom.name), state);
        }
        Set<String> is = new TreeSet<>(state);
        if (!atom.name.equals("%") && !atom.name.endsWith(".g")) {
            is.add(atom.name);
        }
        return is;
    }

    private void use(int place, String local, Set<String> state) {
        if (state.add(local)) {
            raise(place, 1);
        }
    }

    private void flowWrite(Statement s, Set<String> state) {
        if (s.value.contains(".")) {
            use(s.place, local(s.value), state);
        }
        if (s.value.equals("@")) {
            state.removeIf(fact -> fact.endsWith(".h"));
        }
        boolean sure = s.value.equals("N") || s.value.endsWith(".g") || state.contains(s.value);
        boolean linked = state.contains(s.value + ".h");
        if (s.target.contains(".")) {
            flowFieldWrite(s, sure, state);
            return;
        }
        if (!sure && isSolid(s.target)) {
            raise(s.place, 2);
        } else if (!sure) {
            state.remove(s.target);
        } else {
            state.add(s.target);
        }
        state.remove(s.target + ".h");
        if (linked) {
            state.add(s.target + ".h");
        }
    }

    private void flowFieldWrite(Statement s, boolean sure, Set<String> state) {
        use(s.place, local(s.target), state);
        if (s.target.endsWith(".g") && !sure) {
            raise(s.place, 2);
        }
        if (s.target.endsWith(".h") && sure) {
            state.add(s.target);
        }
        if (s.target.endsWith(".h") && !sure) {
            state.removeIf(fact -> fact.endsWith(".h"));
        }
    }

    private boolean counts(int p) {
        return p == text.length() || counting.contains(p);
    }

    private static Set<Integer> countingPlaces(List<Statement> block) {
        Set<Integer> places = new TreeSet<>();
        for (Statement s : block) {
            places.add(s.place);
            s.clauses.forEach(clause -> clause.forEach(atom -> places.add(atom.place)));
            if (s.first != null) {
                places.addAll(countingPlaces(s.first));
                places.addAll(countingPlaces(s.second));
            }
        }
        return places;
    }

    int alarms() {
        return (int) alarms.values().stream().filter(kinds -> kinds != 0).count();
    }

    int alarm(int p) {
        return counts(p) ? alarms.getOrDefault(p, 0) : -1;
    }

    int sure(int p, int v) {
        if (!counts(p) || v < 0 || v > 4) {
            return -1;
        }
        if (!states.containsKey(p)) {
            return 0;
        }
        return states.get(p).contains("" + (char) ('a' + v)) ? 2 : 1;
    }

    boolean linked(int p, int v) {
        return sure(p, v) > 0 && states.get(p).contains((char) ('a' + v) + ".h");
    }

    // Running. The end of a run is thrown, from however deep it is.

    private static final class Thing {
        Thing g = this;
        Thing h;
    }

    private static final class Ended extends RuntimeException {
        private static final long serialVersionUID = 1;
        private final int answer;

        Ended(int place, int with) {
            answer = 4 * place + with;
        }
    }

    private List<Thing> things;
    private Map<String, Thing> locals;
    private BigInteger oracle;
    private int visited;

    int run(int start, long bits) {
        things = new ArrayList<>(List.of(new Thing()));
        locals = new HashMap<>();
        oracle = new BigInteger(Long.toUnsignedString(bits));
        visited = 0;
        for (int v = 0; v < 5; v++) {
            String local = "" + (char) ('a' + v);
            boolean holding = isSolid(local) || (start >> v & 1) == 1;
            locals.put(local, holding ? things.get(0) : null);
        }
        try {
            doAll(program);
            visit(text.length());
            return 4 * text.length();
        } catch (Ended ended) {
            return ended.answer;
        }
    }

    int held(int v) {
        return things.indexOf(locals.get("" + (char) ('a' + v)));
    }

    int field(int o, int f) {
        return things.indexOf(f == 0 ? things.get(o).g : things.get(o).h);
    }

    int objects() {
        return things.size();
    }

    /** The place where the run ended is visited, too. */
    int steps() {
        return visited - 1;
    }

    private void visit(int place) {
        visited++;
        if (visited > 200) {
            throw new Ended(place, 3);
        }
    }

    private int take(int bits) {
        int taken = oracle.intValue() & ((1 << bits) - 1);
        oracle = oracle.shiftRight(bits);
        return taken;
    }

    private Thing thing(int number) {
        return number < things.size() ? things.get(number) : things.get(things.size() - 1);
    }

    private void doAll(List<Statement> block) {
        for (Statement s : block) {
            visit(s.place);
            doOne(s);
        }
    }

    private void doOne(Statement s) {
        switch (s.sign) {
            case '?':
                doAll(holds(s) ? s.first : s.second);
                break;
            case '*':
                while (holds(s)) {
                    doAll(s.first);
                }
                break;
            case '!':
                thing(take(2)).h = null;
                break;
            case '^':
                throw new Ended(s.place, 0);
            default:
                doWrite(s);
                break;
        }
    }

    private boolean holds(Statement s) {
        for (List<Atom> clause : s.clauses) {
            boolean all = true;
            for (int i = 0; i < clause.size() && all; i++) {
                all = holds(clause.get(i));
            }
            if (all) {
                return true;
            }
        }
        return false;
    }

    private boolean holds(Atom atom) {
        visit(atom.place);
        boolean plain = atom.name.equals("%") ? take(1) == 1 : value(atom.place, atom.name) != null;
        return plain != atom.turned;
    }

    private Thing use(int place, String name) {
        Thing used = locals.get(local(name));
        if (used == null) {
            throw new Ended(place, 1);
        }
        return used;
    }

    private Thing value(int place, String value) {
        if (value.equals("n")) {
            return null;
        }
        if (value.equals("N")) {
            if (things.size() == 8) {
                return things.get(7);
            }
            things.add(new Thing());
            return things.get(things.size() - 1);
        }
        if (value.equals("@")) {
            int k = take(2);
            return k == 0 ? null : thing(k - 1);
        }
        if (value.endsWith(".g")) {
            return use(place, value).g;
        }
        return value.endsWith(".h") ? use(place, value).h : locals.get(value);
    }

    private void doWrite(Statement s) {
        Thing given = value(s.place, s.value);
        Thing into = s.target.contains(".") ? use(s.place, s.target) : null;
        boolean mayBeNothing = s.target.endsWith(".h") || into == null && !isSolid(s.target);
        if (given == null && !mayBeNothing) {
            throw new Ended(s.place, 2);
        }
        if (into == null) {
            locals.put(s.target, given);
        } else if (s.target.endsWith(".g")) {
            into.g = given;
        } else {
            into.h = given;
        }
    }
}
