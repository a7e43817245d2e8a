import java.util.ArrayDeque;
import java.util.ArrayList;
import java.util.HashMap;
import java.util.HashSet;
import java.util.LinkedHashMap;
import java.util.List;
import java.util.Map;
import java.util.Set;

/**
 * The document once more, written as plainly as it can be with the whole library and without a look
 * at room or speed: terms are objects, bindings are maps, a state is never changed.
 */
final class Model {
    // ---- terms

    interface Term {
    }

    record Var(String name) implements Term {
    }

    record Atom(int number) implements Term {
    }

    record Empty() implements Term {
    }

    record Pair(Term first, Term second) implements Term {
    }

    /** The TERM with all BINDINGS put in. */
    static Term whole(Map<Var, Term> bindings, Term term) {
        if (term instanceof Var v) {
            return bindings.containsKey(v) ? whole(bindings, bindings.get(v)) : v;
        }
        if (term instanceof Pair p) {
            return new Pair(whole(bindings, p.first), whole(bindings, p.second));
        }
        return term;
    }

    static boolean contains(Term whole, Var variable) {
        if (whole instanceof Pair p) {
            return contains(p.first, variable) || contains(p.second, variable);
        }
        return whole.equals(variable);
    }

    /** The BINDINGS with the least more that make both the same, or null. */
    static Map<Var, Term> unified(Map<Var, Term> bindings, Term a, Term b) {
        Term one = whole(bindings, a);
        Term other = whole(bindings, b);
        if (one.equals(other)) {
            return bindings;
        }
        if (other instanceof Var && !(one instanceof Var)) {
            return unified(bindings, other, one);
        }
        if (one instanceof Var v) {
            if (contains(other, v)) {
                return null;
            }
            Map<Var, Term> more = new HashMap<>(bindings);
            more.put(v, other);
            return more;
        }
        if (one instanceof Pair p && other instanceof Pair q) {
            Map<Var, Term> more = unified(bindings, p.first, q.first);
            return more == null ? null : unified(more, p.second, q.second);
        }
        return null;
    }

    static String told(Map<Var, Term> bindings, Term term) {
        StringBuilder out = new StringBuilder();
        tell(whole(bindings, term), new LinkedHashMap<>(), out);
        return out.substring(0, Math.min(200, out.length()));
    }

    private static void tell(Term term, Map<Var, Integer> names, StringBuilder out) {
        if (term instanceof Var v) {
            names.putIfAbsent(v, names.size());
            out.append('_').append(names.get(v) % 10);
        } else if (term instanceof Atom a) {
            out.append(a.number);
        } else if (term instanceof Pair p) {
            out.append('(');
            tell(p.first, names, out);
            out.append('.');
            tell(p.second, names, out);
            out.append(')');
        } else {
            out.append('n');
        }
    }

    static Var named(int variable) {
        return new Var("" + (char) ('a' + variable));
    }

    // ---- goals

    record Goal(char kind, List<Term> terms, List<Goal> goals) {
    }

    static Goal goalOf(char kind, Term... terms) {
        return new Goal(kind, List.of(terms), List.of());
    }

    static Goal goalOf(char kind, Goal one, Goal other) {
        return new Goal(kind, List.of(), List.of(one, other));
    }

    static final class Fault extends Exception {
        private static final long serialVersionUID = 1L;
        final int number;

        Fault(int number) {
            this.number = number;
        }
    }

    private static final class Letters {
        final String letters;
        int at = 0;
        final List<Integer> goalsAt = new ArrayList<>();
        final List<Integer> termsAt = new ArrayList<>();

        Letters(String letters) {
            this.letters = letters;
        }

        int look() {
            return at < letters.length() ? letters.charAt(at) : -1;
        }

        Goal whole() throws Fault {
            Goal goal = goal();
            if (at < letters.length()) {
                throw new Fault(-1000 - at);
            }
            int excess = letters.length();
            if (goalsAt.size() > 24) {
                excess = goalsAt.get(24);
            }
            if (termsAt.size() > 40) {
                excess = Math.min(excess, termsAt.get(40));
            }
            if (excess < letters.length()) {
                throw new Fault(-2000 - excess);
            }
            return goal;
        }

        Goal goal() throws Fault {
            int kind = look();
            if (kind < 0 || "=#&|AM*!".indexOf(kind) < 0) {
                throw new Fault(-1000 - at);
            }
            goalsAt.add(at);
            at++;
            List<Term> terms = new ArrayList<>();
            List<Goal> goals = new ArrayList<>();
            int size = kind == '*' || kind == '!' ? 0 : kind == 'A' ? 3 : 2;
            for (int i = 0; i < size; i++) {
                if (kind == '&' || kind == '|') {
                    goals.add(goal());
                } else {
                    terms.add(term());
                }
            }
            return new Goal((char) kind, terms, goals);
        }

        Term term() throws Fault {
            int letter = look();
            if (letter < 0 || "abcdef0123456789n(".indexOf(letter) < 0) {
                throw new Fault(-1000 - at);
            }
            termsAt.add(at);
            at++;
            if (letter == '(') {
                Term first = term();
                Term second = term();
                if (look() != ')') {
                    throw new Fault(-1000 - at);
                }
                at++;
                return new Pair(first, second);
            }
            if (letter == 'n') {
                return new Empty();
            }
            return letter >= 'a' ? new Var("" + (char) letter) : new Atom(letter - '0');
        }
    }

    // ---- states and the search

    record State(Map<Var, Term> bindings, List<Goal> todo, List<List<Term>> kept, int variables) {
        State with(Map<Var, Term> other) {
            return new State(other, todo, kept, variables);
        }

        State first(Goal... goals) {
            List<Goal> more = new ArrayList<>(List.of(goals));
            more.addAll(todo);
            return new State(bindings, more, kept, variables);
        }

        Var fresh(int k) {
            return new Var("#" + (variables + k));
        }

        State wider(int k) {
            return new State(bindings, todo, kept, variables + k);
        }

        /** Both made the same, or null. */
        State same(Term a, Term b) {
            Map<Var, Term> more = unified(bindings, a, b);
            return more == null ? null : with(more);
        }

        /** With the KEPT ones looked at, or null. */
        State looked() {
            List<List<Term>> left = new ArrayList<>();
            for (List<Term> two : kept) {
                if (whole(bindings, two.get(0)).equals(whole(bindings, two.get(1)))) {
                    return null;
                }
                if (unified(bindings, two.get(0), two.get(1)) != null) {
                    left.add(two);
                }
            }
            return new State(bindings, todo, left, variables);
        }
    }

    record Answer(State state, int step) {
    }

    static final class Search {
        int step = 0;
        int lost = 0;
        int most = 1;
        final ArrayDeque<State> queue = new ArrayDeque<>();
        final List<Answer> answers = new ArrayList<>();

        Search(Goal goal) {
            queue.add(new State(Map.of(), List.of(goal), List.of(), 6));
        }

        Search(Search other) {
            step = other.step;
            lost = other.lost;
            most = other.most;
            queue.addAll(other.queue);
            answers.addAll(other.answers);
        }

        boolean isDone() {
            return queue.isEmpty() || answers.size() == 30;
        }

        Search run(int steps) {
            for (int i = 0; i < steps && !isDone(); i++) {
                step++;
                State state = queue.remove();
                if (state.todo.isEmpty()) {
                    answers.add(new Answer(state, step));
                } else {
                    State rest = new State(state.bindings, state.todo.subList(1, state.todo.size()), state.kept,
                        state.variables);
                    for (State next : after(rest, state.todo.get(0))) {
                        goesBehind(next);
                    }
                }
                most = Math.max(most, queue.size());
            }
            return this;
        }

        private void goesBehind(State state) {
            if (state.variables > 60 || queue.size() >= 40) {
                lost++;
            } else {
                queue.add(state);
            }
        }

        private static List<State> after(State state, Goal goal) {
            List<State> left = new ArrayList<>();
            List<Term> t = goal.terms;
            switch (goal.kind) {
                case '=' -> addLooked(left, state.same(t.get(0), t.get(1)));
                case '#' -> {
                    List<List<Term>> more = new ArrayList<>(state.kept);
                    more.add(t);
                    addLooked(left, new State(state.bindings, state.todo, more, state.variables));
                }
                case '&' -> left.add(state.first(goal.goals.get(0), goal.goals.get(1)));
                case '|' -> {
                    left.add(state.first(goal.goals.get(0)));
                    left.add(state.first(goal.goals.get(1)));
                }
                case '*' -> left.add(state);
                case 'A' -> {
                    State ends = state.same(t.get(0), new Empty());
                    addLooked(left, ends == null ? null : ends.same(t.get(1), t.get(2)));
                    Var h = state.fresh(0);
                    Var r = state.fresh(1);
                    Var u = state.fresh(2);
                    State more = state.wider(3).first(goalOf('A', r, t.get(1), u)).same(t.get(0), new Pair(h, r));
                    addLooked(left, more == null ? null : more.same(t.get(2), new Pair(h, u)));
                }
                case 'M' -> {
                    addLooked(left, state.wider(1).same(t.get(1), new Pair(t.get(0), state.fresh(0))));
                    Var h = state.fresh(0);
                    Var r = state.fresh(1);
                    addLooked(left, state.wider(2).first(goalOf('M', t.get(0), r)).same(t.get(1), new Pair(h, r)));
                }
                default -> {
                }
            }
            return left;
        }

        private static void addLooked(List<State> left, State state) {
            State looked = state == null ? null : state.looked();
            if (looked != null) {
                left.add(looked);
            }
        }
    }

    // ---- the face

    private static final long LONGS = 4000000000000000000L;

    private Goal goal = goalOf('*');
    private int goals = 1;
    private int terms = 0;
    private Search search = new Search(goal);
    private final StringBuilder letters = new StringBuilder();
    private final StringBuilder row = new StringBuilder();
    private final int[] refused = new int[10];
    private Object[] image = null;

    private int no(int number) {
        refused[-number]++;
        return number;
    }

    private boolean isAnswer(int i) {
        return i >= 0 && i < search.answers.size();
    }

    private static boolean isVariable(int variable) {
        return variable >= 0 && variable < 6;
    }

    private static String textOf(Search search, int i, int variable) {
        return told(search.answers.get(i).state.bindings, named(variable));
    }

    private Search with(int variable, int atom) {
        return new Search(goalOf('&', goalOf('=', named(variable), new Atom(atom)), goal)).run(120);
    }

    int letter(int c) {
        if (c < 0) {
            return no(-4);
        }
        if (c > 255 || letters.length() == 96) {
            return no(-6);
        }
        return letters.append((char) c).length();
    }

    int goal() {
        Letters told = new Letters(letters.toString());
        letters.setLength(0);
        try {
            goal = told.whole();
        } catch (Fault fault) {
            return fault.number;
        }
        goals = told.goalsAt.size();
        terms = told.termsAt.size();
        search = new Search(goal);
        return goals;
    }

    int steps(int n) {
        if (n < 1) {
            return no(-4);
        }
        if (n > 100 || search.step + n > 300) {
            return no(-6);
        }
        return search.run(n).answers.size();
    }

    int answers() {
        return search.answers.size();
    }

    int length(int i, int variable) {
        return isAnswer(i) && isVariable(variable) ? textOf(search, i, variable).length() : no(-1);
    }

    int text(int i, int variable, int k) {
        if (!isAnswer(i) || !isVariable(variable)) {
            return no(-1);
        }
        if (k < 0) {
            return no(-4);
        }
        String text = textOf(search, i, variable);
        return k < text.length() ? text.charAt(k) : -9;
    }

    int when(int i) {
        return isAnswer(i) ? search.answers.get(i).step : no(-1);
    }

    int kept(int i) {
        return isAnswer(i) ? search.answers.get(i).state.kept.size() : no(-1);
    }

    int queue(int what) {
        State first = search.queue.peek();
        return switch (what) {
            case 0 -> search.queue.size();
            case 1 -> search.lost;
            case 2 -> search.most;
            case 3 -> first == null ? -9 : first.todo.size();
            case 4 -> first == null ? -9 : first.kept.size();
            case 5 -> first == null ? -9 : first.variables;
            default -> no(-2);
        };
    }

    int done() {
        return search.isDone() ? 1 : 0;
    }

    int different(int variable) {
        if (!isVariable(variable)) {
            return no(-1);
        }
        Set<String> texts = new HashSet<>();
        for (int i = 0; i < search.answers.size(); i++) {
            texts.add(textOf(search, i, variable));
        }
        return texts.size();
    }

    int earliest(int i, int variable) {
        if (!isAnswer(i) || !isVariable(variable)) {
            return no(-1);
        }
        int j = 0;
        while (!textOf(search, j, variable).equals(textOf(search, i, variable))) {
            j++;
        }
        return j;
    }

    private static Term renamed(Term whole, String by) {
        if (whole instanceof Var v) {
            return new Var(by + v.name);
        }
        return whole instanceof Pair p ? new Pair(renamed(p.first, by), renamed(p.second, by)) : whole;
    }

    int meet(int i, int j) {
        if (!isAnswer(i) || !isAnswer(j)) {
            return no(-1);
        }
        Map<Var, Term> bindings = Map.of();
        for (int v = 0; v < 6 && bindings != null; v++) {
            Term one = renamed(whole(search.answers.get(i).state.bindings, named(v)), "one ");
            Term other = renamed(whole(search.answers.get(j).state.bindings, named(v)), "other ");
            bindings = unified(bindings, one, other);
        }
        return bindings == null ? 0 : 1;
    }

    int need(int k) {
        if (k < 1) {
            return no(-4);
        }
        if (k > 10) {
            return no(-6);
        }
        Search anew = new Search(goal);
        while (!anew.isDone() && anew.step < 300 && anew.answers.size() < k) {
            anew.run(1);
        }
        return anew.answers.size() < k ? -9 : anew.step;
    }

    int left(int variable, int atom) {
        if (!isVariable(variable)) {
            return no(-1);
        }
        if (atom < 0) {
            return no(-4);
        }
        if (atom > 9) {
            return no(-6);
        }
        return with(variable, atom).answers.size();
    }

    int least(int variable) {
        if (!isVariable(variable)) {
            return no(-1);
        }
        for (int atom = 0; atom < 10; atom++) {
            if (!with(variable, atom).answers.isEmpty()) {
                return atom;
            }
        }
        return -9;
    }

    int turned(int what) {
        if (what < 0 || what > 1) {
            return no(-2);
        }
        if (goal.kind != '&' && goal.kind != '|') {
            return no(-3);
        }
        Search other = new Search(goalOf(goal.kind, goal.goals.get(1), goal.goals.get(0))).run(120);
        if (what == 0) {
            return other.answers.size();
        }
        return other.answers.isEmpty() ? -9 : other.answers.get(0).step;
    }

    long share(int part) {
        if (part < 0 || part > 1) {
            return LONGS - no(-2);
        }
        int above = search.answers.size();
        int below = above == 0 ? 1 : search.step;
        for (int d = below; d > 1; d--) {
            if (above % d == 0 && below % d == 0) {
                above /= d;
                below /= d;
            }
        }
        return part == 0 ? above : below;
    }

    int which(int variable) {
        if (!isVariable(variable)) {
            return no(-1);
        }
        int bits = 0;
        for (int atom = 0; atom < 10; atom++) {
            Search then = with(variable, atom);
            if (!then.answers.isEmpty() && textOf(then, 0, 0).startsWith(row.toString())) {
                bits += 1 << atom;
            }
        }
        return bits;
    }

    int row(int v) {
        if (v < 0) {
            return no(-4);
        }
        if (v > 127 || row.length() == 32) {
            return no(-6);
        }
        return row.append((char) v).length();
    }

    int judge(int i) {
        if (!isAnswer(i)) {
            return no(-1);
        }
        String text = textOf(search, i, 0);
        String told = row.toString();
        row.setLength(0);
        if (text.equals(told)) {
            return -9;
        }
        int k = 0;
        while (k < told.length() && k < text.length() && told.charAt(k) == text.charAt(k)) {
            k++;
        }
        return k;
    }

    int clear() {
        int had = row.length();
        row.setLength(0);
        return had;
    }

    private static final class Lot {
        int z;

        int draw(int m) {
            z = z * 1664525 + 1013904223;
            return ((z << 1 >>> 1) >> 8) % m;
        }

        Term simple(int kind) {
            return kind == 0 ? named(draw(6)) : new Atom(draw(3));
        }

        Term term() {
            int kind = draw(3);
            if (kind < 2) {
                return simple(kind);
            }
            Term first = simple(draw(2));
            return new Pair(first, simple(draw(2)));
        }
    }

    int lots(int n, int z, int what) {
        if (n < 1) {
            return no(-4);
        }
        if (n > 20) {
            return no(-6);
        }
        if (what < 0 || what > 1) {
            return no(-2);
        }
        Lot lot = new Lot();
        lot.z = z;
        int hold = 0;
        int terms = 0;
        for (int i = 0; i < n; i++) {
            Map<Var, Term> bindings = Map.of();
            for (int k = 0; k < 4; k++) {
                Term one = lot.term();
                Term other = lot.term();
                bindings = bindings == null ? null : unified(bindings, one, other);
            }
            if (bindings != null) {
                hold++;
                for (int v = 0; v < 6; v++) {
                    terms += whole(bindings, named(v)) instanceof Var ? 0 : 1;
                }
            }
        }
        return what == 0 ? hold : terms;
    }

    int image() {
        image = new Object[] {goal, goals, terms, new Search(search)};
        return search.step;
    }

    int on() {
        if (image == null) {
            return no(-3);
        }
        goal = (Goal) image[0];
        goals = (Integer) image[1];
        terms = (Integer) image[2];
        search = new Search((Search) image[3]);
        return search.step;
    }

    int count(int what) {
        return switch (what) {
            case 0 -> search.step;
            case 1 -> search.answers.size();
            case 2 -> goals;
            case 3 -> terms;
            case 4 -> search.queue.size();
            case 5 -> search.lost;
            case 6 -> row.length();
            case 7 -> letters.length();
            case 11, 12, 13, 14, 15, 16 -> refused[what - 10];
            default -> -9;
        };
    }
}
