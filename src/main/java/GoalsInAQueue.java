import java.util.Arrays;

/**
 * Unification as goals: states wait in a queue and do one goal a step.
 *
 * A TERM is a number: a VARIABLE 0 .. 63 (those of a second ANSWER 64 .. 127), an ATOM 128 .. 137,
 * EMPTY 138, or a PAIR from 256 on, whose halves the script holds (a second ANSWER's from 1280 on).
 * All rows are made in constructors and used again, so that no later call makes anything.
 */
public final class GoalsInAQueue {
    private static final int NOBODY = -1;
    private static final int OTHER = -2;
    private static final int NOT_SO = -3;
    private static final int BELOW = -4;
    private static final int NO_ROOM = -6;
    private static final int NONE = -9;
    private static final long LONG_REFUSAL = 4000000000000000000L;

    private static final int LETTERS_MOST = 96;
    private static final int LETTER_GREATEST = 255;
    private static final int GOALS_MOST = 24;
    private static final int TERMS_MOST = 40;
    private static final int STEPS_A_CALL = 100;
    private static final int STEPS_MOST = 300;
    private static final int STEPS_IN_MIND = 120;
    private static final int QUEUE_MOST = 40;
    private static final int ANSWERS_MOST = 30;
    private static final int VARIABLES_MOST = 60;
    private static final int TEXT_MOST = 200;
    private static final int NEED_MOST = 10;
    private static final int ROW_MOST = 32;
    private static final int ROW_GREATEST = 127;
    private static final int LOTS_MOST = 20;
    private static final int EQUALS_A_LOT = 4;
    private static final int ATOMS = 10;
    private static final int NAMED = 6;

    private static final int OPEN = -1;
    private static final int NOWHERE = -1;
    private static final int SECOND = 64;
    private static final int ATOM = 128;
    private static final int EMPTY = 138;
    private static final int PAIR = 256;
    private static final int SECOND_PAIR = 1280;

    // A step unfolds at most one GOAL and two PAIRS, and LEFT puts two GOALS ahead of those told.
    private static final int GOALS_ROOM = GOALS_MOST + 2 + STEPS_MOST;
    private static final int PAIRS_ROOM = TERMS_MOST + 2 * STEPS_MOST;
    // A STATE of 60 VARIABLES gets three more before it is LOST.
    private static final int VARIABLES_ROOM = SECOND;
    private static final int TODO_ROOM = 32;
    private static final int STACK_ROOM = 1024;
    private static final int TURNS_MOST = 1000000;

    private final Search search;
    private final Search mind;
    private final Search taken;
    private final Unifier unifier;
    private final Reader reader;
    private final Teller teller;
    private final Draws draws;
    private final Row letters;
    private final Row numbers;
    private final int[] refusals;
    private final int[] bothBindings;
    private final int[][] texts;
    private final int[] textSizes;
    private boolean isTaken;

    public GoalsInAQueue() {
        unifier = new Unifier();
        search = new Search(unifier);
        mind = new Search(unifier);
        taken = new Search(unifier);
        reader = new Reader(mind.script);
        teller = new Teller();
        draws = new Draws();
        letters = new Row(LETTERS_MOST);
        numbers = new Row(ROW_MOST);
        refusals = new int[7];
        bothBindings = new int[2 * SECOND];
        texts = new int[ANSWERS_MOST][TEXT_MOST];
        textSizes = new int[ANSWERS_MOST];
        isTaken = false;
    }

    public int letter(int c) {
        if (c < 0) {
            return refuse(BELOW);
        }
        if (c > LETTER_GREATEST || letters.isFull()) {
            return refuse(NO_ROOM);
        }
        return letters.add(c);
    }

    public int goal() {
        // What is in mind is made anew by each call that uses it, so its script is free to read into.
        int read = reader.read(letters);
        letters.empty();
        if (read < 0) {
            return read;
        }
        search.script.retell(mind.script);
        search.begin();
        return read;
    }

    public int steps(int n) {
        if (n < 1) {
            return refuse(BELOW);
        }
        if (n > STEPS_A_CALL || search.step + n > STEPS_MOST) {
            return refuse(NO_ROOM);
        }
        search.run(n, ANSWERS_MOST);
        return search.found;
    }

    public int answers() {
        return search.found;
    }

    public int length(int i, int variable) {
        if (!isAnswer(i) || !isNamed(variable)) {
            return refuse(NOBODY);
        }
        teller.tell(search.script, search.answerAt(i), variable);
        return teller.size;
    }

    public int text(int i, int variable, int k) {
        if (!isAnswer(i) || !isNamed(variable)) {
            return refuse(NOBODY);
        }
        if (k < 0) {
            return refuse(BELOW);
        }
        teller.tell(search.script, search.answerAt(i), variable);
        return teller.signAt(k);
    }

    public int when(int i) {
        if (!isAnswer(i)) {
            return refuse(NOBODY);
        }
        return search.stepOf(i);
    }

    public int kept(int i) {
        if (!isAnswer(i)) {
            return refuse(NOBODY);
        }
        return Integer.bitCount(search.answerAt(i).kept);
    }

    public int queue(int what) {
        switch (what) {
            case 0:
                return search.size;
            case 1:
                return search.lost;
            case 2:
                return search.most;
            case 3:
                return search.size == 0 ? NONE : search.first().todos;
            case 4:
                return search.size == 0 ? NONE : Integer.bitCount(search.first().kept);
            case 5:
                return search.size == 0 ? NONE : search.first().variables;
            default:
                return refuse(OTHER);
        }
    }

    public int done() {
        return search.isDone() ? 1 : 0;
    }

    public int different(int variable) {
        if (!isNamed(variable)) {
            return refuse(NOBODY);
        }
        tellUpTo(search.found, variable);
        int different = 0;
        for (int i = 0; i < search.found; i++) {
            if (firstAlike(i) == i) {
                different++;
            }
        }
        return different;
    }

    public int earliest(int i, int variable) {
        if (!isAnswer(i) || !isNamed(variable)) {
            return refuse(NOBODY);
        }
        tellUpTo(i + 1, variable);
        return firstAlike(i);
    }

    public int meet(int i, int j) {
        if (!isAnswer(i) || !isAnswer(j)) {
            return refuse(NOBODY);
        }
        takeBoth(search.answerAt(i), search.answerAt(j));
        for (int variable = 0; variable < NAMED; variable++) {
            if (!unifier.unify(search.script, bothBindings, variable, variable + SECOND)) {
                return 0;
            }
        }
        return 1;
    }

    public int need(int k) {
        if (k < 1) {
            return refuse(BELOW);
        }
        if (k > NEED_MOST) {
            return refuse(NO_ROOM);
        }
        mind.script.retell(search.script);
        mind.begin();
        mind.run(STEPS_MOST, k);
        return mind.found < k ? NONE : mind.stepOf(k - 1);
    }

    public int left(int variable, int atom) {
        if (!isNamed(variable)) {
            return refuse(NOBODY);
        }
        if (atom < 0) {
            return refuse(BELOW);
        }
        if (atom >= ATOMS) {
            return refuse(NO_ROOM);
        }
        beginWith(variable, atom);
        mind.run(STEPS_IN_MIND, ANSWERS_MOST);
        return mind.found;
    }

    public int least(int variable) {
        if (!isNamed(variable)) {
            return refuse(NOBODY);
        }
        for (int atom = 0; atom < ATOMS; atom++) {
            beginWith(variable, atom);
            mind.run(STEPS_IN_MIND, 1);
            if (mind.found > 0) {
                return atom;
            }
        }
        return NONE;
    }

    public int turned(int what) {
        if (what != 0 && what != 1) {
            return refuse(OTHER);
        }
        Script told = search.script;
        int kind = told.kindOf(told.top);
        if (kind != '&' && kind != '|') {
            return refuse(NOT_SO);
        }
        Script other = mind.script;
        other.retell(told);
        other.setPart(other.top, 0, told.partOf(told.top, 1));
        other.setPart(other.top, 1, told.partOf(told.top, 0));
        mind.begin();
        mind.run(STEPS_IN_MIND, ANSWERS_MOST);
        if (what == 0) {
            return mind.found;
        }
        return mind.found == 0 ? NONE : mind.stepOf(0);
    }

    public long share(int part) {
        if (part != 0 && part != 1) {
            return LONG_REFUSAL - refuse(OTHER);
        }
        if (search.found == 0) {
            return part;
        }
        int divisor = greatestDivisor(search.found, search.step);
        int whole = part == 0 ? search.found : search.step;
        return divisor < 1 ? whole : whole / divisor;
    }

    public int which(int variable) {
        if (!isNamed(variable)) {
            return refuse(NOBODY);
        }
        int bits = 0;
        for (int atom = 0; atom < ATOMS; atom++) {
            beginWith(variable, atom);
            mind.run(STEPS_IN_MIND, 1);
            if (mind.found > 0) {
                teller.tell(mind.script, mind.answerAt(0), 0);
                if (toldAlike() == numbers.size()) {
                    bits |= 1 << atom;
                }
            }
        }
        return bits;
    }

    public int row(int v) {
        if (v < 0) {
            return refuse(BELOW);
        }
        if (v > ROW_GREATEST || numbers.isFull()) {
            return refuse(NO_ROOM);
        }
        return numbers.add(v);
    }

    public int judge(int i) {
        if (!isAnswer(i)) {
            return refuse(NOBODY);
        }
        teller.tell(search.script, search.answerAt(i), 0);
        int alike = toldAlike();
        boolean isWhole = alike == numbers.size() && alike == teller.size;
        numbers.empty();
        return isWhole ? NONE : alike;
    }

    public int clear() {
        int had = numbers.size();
        numbers.empty();
        return had;
    }

    public int lots(int n, int z, int what) {
        if (n < 1) {
            return refuse(BELOW);
        }
        if (n > LOTS_MOST) {
            return refuse(NO_ROOM);
        }
        if (what != 0 && what != 1) {
            return refuse(OTHER);
        }
        draws.z = z;
        int holds = 0;
        int terms = 0;
        for (int i = 0; i < n; i++) {
            if (lotHolds(mind.script, mind.now)) {
                holds++;
                terms += namedTerms(mind.now);
            }
        }
        return what == 0 ? holds : terms;
    }

    public int image() {
        taken.copy(search);
        isTaken = true;
        return taken.step;
    }

    public int on() {
        if (!isTaken) {
            return refuse(NOT_SO);
        }
        search.copy(taken);
        return search.step;
    }

    public int count(int what) {
        if (what >= 11 && what <= 16) {
            return refusals[what - 10];
        }
        switch (what) {
            case 0:
                return search.step;
            case 1:
                return search.found;
            case 2:
                return search.script.toldGoals;
            case 3:
                return search.script.toldTerms;
            case 4:
                return search.size;
            case 5:
                return search.lost;
            case 6:
                return numbers.size();
            case 7:
                return letters.size();
            default:
                return NONE;
        }
    }

    private int refuse(int number) {
        int at = -number;
        if (at >= 0 && at < refusals.length) {
            refusals[at]++;
        }
        return number;
    }

    private boolean isAnswer(int i) {
        return i >= 0 && i < search.found;
    }

    private static boolean isNamed(int variable) {
        return variable >= 0 && variable < NAMED;
    }

    private static boolean isVariable(int term) {
        return term >= 0 && term < ATOM;
    }

    private static boolean isPair(int term) {
        return term >= PAIR;
    }

    /** What the bindings make of a TERM at its outside: an open VARIABLE or no VARIABLE. */
    private static int walk(int[] bindings, int term) {
        int at = term;
        for (int turn = 0; turn < 2 * SECOND; turn++) {
            if (at < 0 || at >= ATOM || at >= bindings.length || bindings[at] == OPEN) {
                return at;
            }
            at = bindings[at];
        }
        return at;
    }

    /** The TERM of a second ANSWER, whose open VARIABLES are others than those of the first. */
    private static int asSecond(int term) {
        if (term >= PAIR) {
            return term + SECOND_PAIR - PAIR;
        }
        return term >= 0 && term < ATOM ? term + SECOND : term;
    }

    private static int greatestDivisor(int a, int b) {
        int greater = a;
        int lesser = b;
        for (int turn = 0; turn < 64 && lesser > 0; turn++) {
            int rest = greater % lesser;
            greater = lesser;
            lesser = rest;
        }
        return greater;
    }

    private void takeBoth(State one, State other) {
        Arrays.fill(bothBindings, OPEN);
        for (int i = 0; i < SECOND && i < one.variables; i++) {
            bothBindings[i] = one.bindings[i];
        }
        for (int i = 0; i < SECOND && i < other.variables; i++) {
            bothBindings[i + SECOND] = asSecond(other.bindings[i]);
        }
    }

    private void beginWith(int variable, int atom) {
        Script script = mind.script;
        script.retell(search.script);
        int same = script.addGoal('=');
        script.setPart(same, 0, variable);
        script.setPart(same, 1, ATOM + atom);
        int both = script.addGoal('&');
        script.setPart(both, 0, same);
        script.setPart(both, 1, script.top);
        script.seal(both, script.toldTerms);
        mind.begin();
    }

    /** How many numbers of the ROW, from its first on, are the letters that the teller has told. */
    private int toldAlike() {
        int size = numbers.size();
        for (int i = 0; i < size; i++) {
            if (i >= teller.size || numbers.at(i) != teller.signAt(i)) {
                return i;
            }
        }
        return size;
    }

    private void tellUpTo(int end, int variable) {
        for (int i = 0; i < end && i < ANSWERS_MOST; i++) {
            teller.tell(search.script, search.answerAt(i), variable);
            textSizes[i] = teller.size;
            for (int k = 0; k < teller.size && k < TEXT_MOST; k++) {
                texts[i][k] = teller.signAt(k);
            }
        }
    }

    private int firstAlike(int i) {
        for (int j = 0; j < i; j++) {
            if (isAlike(j, i)) {
                return j;
            }
        }
        return i;
    }

    private boolean isAlike(int i, int j) {
        if (i < 0 || j < 0 || i >= ANSWERS_MOST || j >= ANSWERS_MOST || textSizes[i] != textSizes[j]) {
            return false;
        }
        for (int k = 0; k < textSizes[i] && k < TEXT_MOST; k++) {
            if (texts[i][k] != texts[j][k]) {
                return false;
            }
        }
        return true;
    }

    /** All draws of a lot are made, though one of its four fails: the next lot goes on from them. */
    private boolean lotHolds(Script script, State state) {
        script.wipe();
        state.reset();
        boolean holds = true;
        for (int i = 0; i < EQUALS_A_LOT; i++) {
            int one = draws.drawTerm(script);
            int other = draws.drawTerm(script);
            holds = holds && unifier.unify(script, state.bindings, one, other);
        }
        return holds;
    }

    private static int namedTerms(State state) {
        int terms = 0;
        for (int variable = 0; variable < NAMED; variable++) {
            if (!isVariable(walk(state.bindings, variable))) {
                terms++;
            }
        }
        return terms;
    }

    /** Numbers one behind the other, as many as there is room for. */
    private static final class Row {
        private final int[] held;
        private int size;

        Row(int room) {
            held = new int[Math.max(room, 0)];
            size = 0;
        }

        boolean isFull() {
            return size >= held.length;
        }

        int add(int number) {
            if (size >= 0 && size < held.length) {
                held[size] = number;
                size++;
            }
            return size;
        }

        int at(int i) {
            return i >= 0 && i < size && i < held.length ? held[i] : NONE;
        }

        int size() {
            return size;
        }

        void empty() {
            size = 0;
        }
    }

    /** THE GOAL as it was told, and behind it the GOALS and PAIRS that its SEARCH has unfolded. */
    private static final class Script {
        private final int[] kinds;
        private final int[] parts;
        private final int[] halves;
        private int goals;
        private int pairs;
        private int top;
        private int toldGoals;
        private int toldPairs;
        private int toldTerms;

        Script() {
            kinds = new int[GOALS_ROOM];
            parts = new int[3 * GOALS_ROOM];
            halves = new int[2 * PAIRS_ROOM];
            kinds[0] = '*';
            goals = 1;
            pairs = 0;
            top = 0;
            toldGoals = 1;
            toldPairs = 0;
            toldTerms = 0;
        }

        void wipe() {
            goals = 0;
            pairs = 0;
        }

        /** What has been added so far is what is told, with a GOAL that is the whole. */
        void seal(int whole, int terms) {
            top = whole;
            toldGoals = goals;
            toldPairs = pairs;
            toldTerms = terms;
        }

        /** What the other was told, without what its SEARCH has unfolded. */
        void retell(Script other) {
            copyUpTo(other, other.toldGoals, other.toldPairs);
        }

        void copy(Script other) {
            copyUpTo(other, other.goals, other.pairs);
        }

        private void copyUpTo(Script other, int goalsEnd, int pairsEnd) {
            goals = Math.min(Math.max(goalsEnd, 0), GOALS_ROOM);
            pairs = Math.min(Math.max(pairsEnd, 0), PAIRS_ROOM);
            System.arraycopy(other.kinds, 0, kinds, 0, goals);
            System.arraycopy(other.parts, 0, parts, 0, 3 * goals);
            System.arraycopy(other.halves, 0, halves, 0, 2 * pairs);
            top = other.top;
            toldGoals = other.toldGoals;
            toldPairs = other.toldPairs;
            toldTerms = other.toldTerms;
        }

        int addGoal(int kind) {
            if (goals < 0 || goals >= GOALS_ROOM) {
                return NOWHERE;
            }
            kinds[goals] = kind;
            goals++;
            return goals - 1;
        }

        int addPair(int first, int second) {
            if (pairs < 0 || pairs >= PAIRS_ROOM) {
                return EMPTY;
            }
            halves[2 * pairs] = first;
            halves[2 * pairs + 1] = second;
            pairs++;
            return PAIR + pairs - 1;
        }

        void setPart(int goal, int k, int what) {
            if (goal >= 0 && goal < GOALS_ROOM && k >= 0 && k < 3) {
                parts[3 * goal + k] = what;
            }
        }

        void setHalf(int pair, int k, int term) {
            int at = 2 * (pair - PAIR) + k;
            if (k >= 0 && k < 2 && at >= 0 && at < halves.length) {
                halves[at] = term;
            }
        }

        int kindOf(int goal) {
            return goal >= 0 && goal < GOALS_ROOM ? kinds[goal] : '!';
        }

        int partOf(int goal, int k) {
            return goal >= 0 && goal < GOALS_ROOM && k >= 0 && k < 3 ? parts[3 * goal + k] : EMPTY;
        }

        int halfOf(int pair, int k) {
            boolean isSecond = pair >= SECOND_PAIR;
            int at = 2 * (pair - (isSecond ? SECOND_PAIR : PAIR)) + k;
            if (k < 0 || k > 1 || at < 0 || at >= halves.length) {
                return EMPTY;
            }
            return isSecond ? asSecond(halves[at]) : halves[at];
        }
    }

    /** Reads letters: each letter takes what is due next, and puts what it has itself ahead of the rest. */
    private static final class Reader {
        private static final int DUE_GOAL = 0;
        private static final int DUE_TERM = 1;
        private static final int DUE_CLOSING = 2;
        private static final int FAULT_FORM = -1000;
        private static final int FAULT_ROOM = -2000;
        // Each letter takes one that is due and puts at most three.
        private static final int DUE_ROOM = 2 * LETTERS_MOST + 4;

        private final Script into;
        private final int[] due;
        private final int[] owner;
        private final int[] place;
        private int top;
        private int goals;
        private int terms;
        private int excess;

        Reader(Script into) {
            this.into = into;
            due = new int[DUE_ROOM];
            owner = new int[DUE_ROOM];
            place = new int[DUE_ROOM];
            top = 0;
            goals = 0;
            terms = 0;
            excess = NOWHERE;
        }

        /** How many GOALS were read, or the FAULT. */
        int read(Row letters) {
            begin();
            int size = letters.size();
            for (int i = 0; i < size; i++) {
                if (top < 1 || !takes(letters.at(i), i)) {
                    return FAULT_FORM - i;
                }
            }
            if (top > 0) {
                return FAULT_FORM - size;
            }
            if (excess != NOWHERE) {
                return FAULT_ROOM - excess;
            }
            into.seal(0, terms);
            return goals;
        }

        private void begin() {
            into.wipe();
            top = 0;
            goals = 0;
            terms = 0;
            excess = NOWHERE;
            push(DUE_GOAL, NOWHERE, 0);
        }

        private void push(int what, int whose, int where) {
            if (top >= 0 && top < DUE_ROOM) {
                due[top] = what;
                owner[top] = whose;
                place[top] = where;
                top++;
            }
        }

        private boolean takes(int letter, int at) {
            top--;
            if (top < 0 || top >= DUE_ROOM) {
                return false;
            }
            int whose = owner[top];
            int where = place[top];
            switch (due[top]) {
                case DUE_GOAL:
                    return takesGoal(letter, at, whose, where);
                case DUE_TERM:
                    return takesTerm(letter, at, whose, where);
                default:
                    return letter == ')';
            }
        }

        private boolean takesGoal(int letter, int at, int whose, int where) {
            int size = partsOf(letter);
            if (size < 0) {
                return false;
            }
            goals++;
            if (goals > GOALS_MOST && excess == NOWHERE) {
                excess = at;
            }
            int goal = excess == NOWHERE ? into.addGoal(letter) : NOWHERE;
            into.setPart(whose, where, goal);
            int what = letter == '&' || letter == '|' ? DUE_GOAL : DUE_TERM;
            for (int k = size - 1; k >= 0; k--) {
                push(what, goal, k);
            }
            return true;
        }

        private boolean takesTerm(int letter, int at, int whose, int where) {
            int term = termOf(letter);
            if (term == NOWHERE && letter != '(') {
                return false;
            }
            terms++;
            if (terms > TERMS_MOST && excess == NOWHERE) {
                excess = at;
            }
            if (letter == '(') {
                term = excess == NOWHERE ? into.addPair(EMPTY, EMPTY) : NOWHERE;
                push(DUE_CLOSING, NOWHERE, 0);
                push(DUE_TERM, term, 1);
                push(DUE_TERM, term, 0);
            }
            if (isPair(whose)) {
                into.setHalf(whose, where, term);
            } else {
                into.setPart(whose, where, term);
            }
            return true;
        }

        private static int partsOf(int letter) {
            switch (letter) {
                case '=':
                case '#':
                case '&':
                case '|':
                case 'M':
                    return 2;
                case 'A':
                    return 3;
                case '*':
                case '!':
                    return 0;
                default:
                    return NOWHERE;
            }
        }

        private static int termOf(int letter) {
            if (letter >= 'a' && letter < 'a' + NAMED) {
                return letter - 'a';
            }
            if (letter >= '0' && letter < '0' + ATOMS) {
                return ATOM + letter - '0';
            }
            return letter == 'n' ? EMPTY : NOWHERE;
        }
    }

    /** What each VARIABLE is, the GOALS to do (the last is done first), and the KEPT ones as bits. */
    private static final class State {
        private final int[] bindings;
        private final int[] todo;
        private int variables;
        private int todos;
        private int kept;

        State() {
            bindings = new int[VARIABLES_ROOM];
            todo = new int[TODO_ROOM];
            reset();
        }

        void reset() {
            Arrays.fill(bindings, OPEN);
            variables = NAMED;
            todos = 0;
            kept = 0;
        }

        void copy(State other) {
            variables = Math.min(Math.max(other.variables, 0), VARIABLES_ROOM);
            todos = Math.min(Math.max(other.todos, 0), TODO_ROOM);
            kept = other.kept;
            System.arraycopy(other.bindings, 0, bindings, 0, variables);
            System.arraycopy(other.todo, 0, todo, 0, todos);
        }

        int fresh() {
            if (variables < 0 || variables >= VARIABLES_ROOM) {
                return EMPTY;
            }
            bindings[variables] = OPEN;
            variables++;
            return variables - 1;
        }

        void push(int goal) {
            if (todos >= 0 && todos < TODO_ROOM) {
                todo[todos] = goal;
                todos++;
            }
        }

        int pop() {
            if (todos < 1 || todos > TODO_ROOM) {
                return NOWHERE;
            }
            todos--;
            return todo[todos];
        }

        void keep(int goal) {
            if (goal >= 0 && goal < 32) {
                kept |= 1 << goal;
            }
        }
    }

    /** Makes two TERMS the same, and minds which VARIABLES it has bound for that. */
    private static final class Unifier {
        private final int[] waiting;
        private final int[] seeking;
        private final int[] bound;
        private final int[] seen;
        private int looks;
        private int waits;
        private int bounds;

        Unifier() {
            waiting = new int[STACK_ROOM];
            seeking = new int[STACK_ROOM];
            bound = new int[2 * SECOND];
            seen = new int[2 * SECOND];
            looks = 0;
            waits = 0;
            bounds = 0;
        }

        boolean unify(Script script, int[] bindings, int one, int other) {
            waits = 0;
            bounds = 0;
            boolean fits = push(one, other);
            for (int turn = 0; turn < TURNS_MOST && fits && waits > 1 && waits <= STACK_ROOM; turn++) {
                waits -= 2;
                int a = walk(bindings, waiting[waits]);
                int b = walk(bindings, waiting[waits + 1]);
                if (a == b) {
                    continue;
                }
                if (isVariable(a)) {
                    fits = !isIn(script, bindings, a, b) && binds(bindings, a, b);
                } else if (isVariable(b)) {
                    fits = !isIn(script, bindings, b, a) && binds(bindings, b, a);
                } else {
                    fits = isPair(a) && isPair(b)
                        && push(script.halfOf(a, 1), script.halfOf(b, 1))
                        && push(script.halfOf(a, 0), script.halfOf(b, 0));
                }
            }
            return fits && waits == 0;
        }

        /** Takes back what the last unify has bound. */
        void undo(int[] bindings) {
            for (int i = 0; i < bounds && i < bound.length; i++) {
                int variable = bound[i];
                if (variable >= 0 && variable < bindings.length) {
                    bindings[variable] = OPEN;
                }
            }
            bounds = 0;
        }

        private boolean push(int one, int other) {
            if (waits < 0 || waits > STACK_ROOM - 2) {
                return false;
            }
            waiting[waits] = one;
            waiting[waits + 1] = other;
            waits += 2;
            return true;
        }

        private boolean binds(int[] bindings, int variable, int term) {
            if (variable < 0 || variable >= bindings.length || bounds < 0 || bounds >= bound.length) {
                return false;
            }
            bindings[variable] = term;
            bound[bounds] = variable;
            bounds++;
            return true;
        }

        private boolean isIn(Script script, int[] bindings, int variable, int term) {
            looks++;
            seeking[0] = term;
            int seeks = 1;
            for (int turn = 0; turn < TURNS_MOST && seeks > 0; turn++) {
                seeks--;
                int at = seeking[seeks];
                if (at == variable || seeks > STACK_ROOM - 2) {
                    return true;
                }
                if (at >= PAIR) {
                    seeking[seeks] = script.halfOf(at, 1);
                    seeking[seeks + 1] = script.halfOf(at, 0);
                    seeks += 2;
                } else if (at >= 0 && at < seen.length && at < bindings.length && seen[at] != looks) {
                    // A TERM may have the same VARIABLE very often: once is enough to look into it.
                    seen[at] = looks;
                    if (bindings[at] != OPEN) {
                        seeking[seeks] = bindings[at];
                        seeks++;
                    }
                }
            }
            return seeks > 0;
        }
    }

    /** THE QUEUE, the ANSWERS, and how far the SEARCH has come. */
    private static final class Search {
        private final Script script;
        private final Unifier unifier;
        private final State[] waiting;
        private final State[] answered;
        private final int[] answeredAt;
        private final State now;
        private final State branch;
        private int head;
        private int size;
        private int step;
        private int found;
        private int lost;
        private int most;

        Search(Unifier unifier) {
            this.unifier = unifier;
            script = new Script();
            waiting = new State[QUEUE_MOST];
            for (int i = 0; i < QUEUE_MOST; i++) {
                waiting[i] = new State();
            }
            answered = new State[ANSWERS_MOST];
            for (int i = 0; i < ANSWERS_MOST; i++) {
                answered[i] = new State();
            }
            answeredAt = new int[ANSWERS_MOST];
            now = new State();
            branch = new State();
            begin();
        }

        /** The script must hold just what it was told: what is unfolded goes behind that. */
        void begin() {
            head = 0;
            size = 0;
            step = 0;
            found = 0;
            lost = 0;
            most = 1;
            now.reset();
            now.push(script.top);
            enqueue(now);
        }

        void copy(Search other) {
            script.copy(other.script);
            head = 0;
            size = Math.min(Math.max(other.size, 0), QUEUE_MOST);
            step = other.step;
            found = Math.min(Math.max(other.found, 0), ANSWERS_MOST);
            lost = other.lost;
            most = other.most;
            for (int i = 0; i < size; i++) {
                waitingAt(i).copy(other.waitingAt(i));
            }
            for (int i = 0; i < found; i++) {
                answerAt(i).copy(other.answerAt(i));
                answeredAt[i] = other.answeredAt[i];
            }
        }

        boolean isDone() {
            return size == 0 || found >= ANSWERS_MOST;
        }

        State answerAt(int i) {
            State state = i >= 0 && i < ANSWERS_MOST ? answered[i] : now;
            return state == null ? now : state;
        }

        int stepOf(int i) {
            return i >= 0 && i < found && i < ANSWERS_MOST ? answeredAt[i] : NONE;
        }

        State first() {
            return waitingAt(0);
        }

        private State waitingAt(int i) {
            int at = (head + i) % QUEUE_MOST;
            State state = at >= 0 && at < QUEUE_MOST ? waiting[at] : now;
            return state == null ? now : state;
        }

        /** So many STEPS; fewer, if it is DONE or there are enough ANSWERS ahead of that. */
        void run(int steps, int enough) {
            for (int i = 0; i < steps && !isDone() && found < enough; i++) {
                step++;
                now.copy(first());
                head = (head + 1) % QUEUE_MOST;
                size--;
                if (now.todos == 0) {
                    addAnswer();
                } else {
                    perform(now.pop());
                }
                most = Math.max(most, size);
            }
        }

        private void addAnswer() {
            if (found >= 0 && found < ANSWERS_MOST) {
                answerAt(found).copy(now);
                answeredAt[found] = step;
                found++;
            }
        }

        private void perform(int goal) {
            int x = script.partOf(goal, 0);
            int y = script.partOf(goal, 1);
            switch (script.kindOf(goal)) {
                case '=':
                    if (unifier.unify(script, now.bindings, x, y)) {
                        settle(now);
                    }
                    break;
                case '#':
                    now.keep(goal);
                    settle(now);
                    break;
                case '&':
                    now.push(y);
                    now.push(x);
                    enqueue(now);
                    break;
                case '|':
                    branch.copy(now);
                    branch.push(x);
                    enqueue(branch);
                    now.push(y);
                    enqueue(now);
                    break;
                case '*':
                    enqueue(now);
                    break;
                case 'A':
                    branch.copy(now);
                    if (appendEnds(x, y, script.partOf(goal, 2))) {
                        settle(branch);
                    }
                    if (appendGoesOn(x, y, script.partOf(goal, 2))) {
                        settle(now);
                    }
                    break;
                case 'M':
                    branch.copy(now);
                    if (memberIsFirst(x, y)) {
                        settle(branch);
                    }
                    if (memberIsBehind(x, y)) {
                        settle(now);
                    }
                    break;
                default:
                    break;
            }
        }

        private boolean appendEnds(int x, int y, int z) {
            return unifier.unify(script, branch.bindings, x, EMPTY)
                && unifier.unify(script, branch.bindings, y, z);
        }

        private boolean appendGoesOn(int x, int y, int z) {
            int h = now.fresh();
            int t = now.fresh();
            int u = now.fresh();
            now.push(relation('A', t, y, u));
            return unifier.unify(script, now.bindings, x, script.addPair(h, t))
                && unifier.unify(script, now.bindings, z, script.addPair(h, u));
        }

        private boolean memberIsFirst(int x, int list) {
            int t = branch.fresh();
            return unifier.unify(script, branch.bindings, list, script.addPair(x, t));
        }

        private boolean memberIsBehind(int x, int list) {
            int h = now.fresh();
            int t = now.fresh();
            now.push(relation('M', x, t, EMPTY));
            return unifier.unify(script, now.bindings, list, script.addPair(h, t));
        }

        private int relation(int kind, int x, int y, int z) {
            int goal = script.addGoal(kind);
            script.setPart(goal, 0, x);
            script.setPart(goal, 1, y);
            script.setPart(goal, 2, z);
            return goal;
        }

        /** Looks at the KEPT ones again: two that need no binding more are the same already. */
        private void settle(State state) {
            for (int goal = 0; goal < 32 && state.kept != 0; goal++) {
                if ((state.kept >>> goal & 1) == 0) {
                    continue;
                }
                boolean fits = unifier.unify(script, state.bindings, script.partOf(goal, 0), script.partOf(goal, 1));
                boolean isSame = fits && unifier.bounds == 0;
                unifier.undo(state.bindings);
                if (isSame) {
                    return;
                }
                if (!fits) {
                    state.kept &= ~(1 << goal);
                }
            }
            enqueue(state);
        }

        private void enqueue(State state) {
            if (state.variables > VARIABLES_MOST || size >= QUEUE_MOST) {
                lost++;
            } else {
                waitingAt(size).copy(state);
                size++;
            }
        }
    }

    /** Tells a TERM in letters. */
    private static final class Teller {
        // Each turn tells one letter at least and puts three more at most.
        private static final int WAITING_ROOM = 3 * TEXT_MOST + 4;

        private final int[] signs;
        private final int[] waiting;
        private final int[] names;
        private int size;
        private int waits;
        private int opens;

        Teller() {
            signs = new int[TEXT_MOST];
            waiting = new int[WAITING_ROOM];
            names = new int[VARIABLES_ROOM];
            size = 0;
            waits = 0;
            opens = 0;
        }

        int signAt(int k) {
            return k >= 0 && k < size && k < TEXT_MOST ? signs[k] : NONE;
        }

        void tell(Script script, State state, int variable) {
            size = 0;
            opens = 0;
            Arrays.fill(names, OPEN);
            waits = 0;
            push(variable);
            for (int turn = 0; turn < TEXT_MOST && waits > 0 && waits <= WAITING_ROOM; turn++) {
                waits--;
                int next = waiting[waits];
                if (next < 0) {
                    put(-next);
                } else {
                    tellTerm(script, walk(state.bindings, next));
                }
            }
        }

        private void tellTerm(Script script, int term) {
            if (isPair(term)) {
                put('(');
                push(-')');
                push(script.halfOf(term, 1));
                push(-'.');
                push(script.halfOf(term, 0));
            } else if (term == EMPTY) {
                put('n');
            } else if (isVariable(term)) {
                put('_');
                put('0' + nameOf(term) % 10);
            } else {
                put('0' + term - ATOM);
            }
        }

        private int nameOf(int variable) {
            if (variable < 0 || variable >= names.length) {
                return 0;
            }
            if (names[variable] == OPEN) {
                names[variable] = opens;
                opens++;
            }
            return names[variable];
        }

        private void put(int sign) {
            if (size >= 0 && size < TEXT_MOST) {
                signs[size] = sign;
                size++;
            }
        }

        /** A TERM, or a sign as a number below 0. */
        private void push(int what) {
            if (waits >= 0 && waits < WAITING_ROOM) {
                waiting[waits] = what;
                waits++;
            }
        }
    }

    /** Draws from a seed. */
    private static final class Draws {
        private int z;

        Draws() {
            z = 0;
        }

        int below(int m) {
            z = z * 1664525 + 1013904223;
            return m < 1 ? 0 : (z & 0x7fffffff) / 256 % m;
        }

        int drawTerm(Script script) {
            switch (below(3)) {
                case 0:
                    return below(NAMED);
                case 1:
                    return ATOM + below(3);
                default:
                    int first = drawHalf();
                    int second = drawHalf();
                    return script.addPair(first, second);
            }
        }

        private int drawHalf() {
            return below(2) == 0 ? below(NAMED) : ATOM + below(3);
        }
    }
}
