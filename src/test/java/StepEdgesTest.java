/** A test for each sentence about BINDINGS, STEPS, THE QUEUE and DONE that names a boundary case. */
public final class StepEdgesTest {
    private static final int A = 0;
    private static final int B = 1;
    private static final int C = 2;
    private static final int STATES = 0;
    private static final int LOST = 1;
    private static final int MOST = 2;
    private static final int TODO = 3;
    private static final int KEPT = 4;
    private static final int VARIABLES = 5;
    /** 32 states after 76 steps; they do one "*" more each, so the ANSWERS come from step 109 on. */
    private static final String THIRTY_TWO = "&|**&|**&|**&|**|**";
    /** Ten states, each of which does "M" 28 times and is LOST then. */
    private static final String TEN_LOST = "|".repeat(9) + "Maa".repeat(10);

    private StepEdgesTest() {
    }

    public static void main(String[] args) {
        unifiedOrNot();
        variableInATerm();
        eachItsOwnBindings();
        answerIsAStepOfItsOwn();
        sameOrGone();
        firstGoalFirst();
        twoStatesInOrder();
        nothingMoreAndGone();
        appendOfEmptyAndOthers();
        appendInOrder();
        memberOfEmptyAndOthers();
        memberInOrder();
        keptWhenTheSame();
        keptNoMore();
        keptLookedAtByRelations();
        keptAtMost();
        variablesAtMost60();
        behind40Others();
        goneIsNotLost();
        doneByAnEmptyQueue();
        doneBy30Answers();
        noStepWhenDone();
        stepsFrom1To100();
        stepsAtMost300();
        queueOfNone();
        queueMost();
        Check.end("StepEdgesTest");
    }

    private static void dueQueue(String what, GoalsInAQueue x, int... due) {
        for (int i = 0; i < due.length; i++) {
            Check.due(what + ": queue " + i, x.queue(i), due[i]);
        }
    }

    private static void dueAnswers(String goal, int due) {
        Check.due("answers of " + goal, Calls.after(goal, 30).answers(), due);
    }

    /** "it fails if none do (ATOMS that differ; an ATOM, EMPTY, a PAIR with one another ..)" */
    private static void unifiedOrNot() {
        String[] one = {"0", "9", "n", "(12)"};
        for (int i = 0; i < one.length; i++) {
            for (int j = 0; j < one.length; j++) {
                dueAnswers("=" + one[i] + one[j], i == j ? 1 : 0);
                dueAnswers("=(" + one[i] + "a)(" + one[j] + "b)", i == j ? 1 : 0);
                dueAnswers("=(a" + one[i] + ")(b" + one[j] + ")", i == j ? 1 : 0);
                dueAnswers("&=a" + one[i] + "=a" + one[j], i == j ? 1 : 0);
                dueAnswers("&=a" + one[i] + "&=b" + one[j] + "=ab", i == j ? 1 : 0);
            }
            dueAnswers("=a" + one[i], 1);
            dueAnswers("=" + one[i] + "f", 1);
        }
        dueAnswers("=(aa)(12)", 0);
        dueAnswers("=(ab)(12)", 1);
        dueAnswers("=((ab)c)((12)3)", 1);
        dueAnswers("=((ab)c)(1(23))", 0);
    }

    /** "a VARIABLE with a TERM in which it is, but for itself" */
    private static void variableInATerm() {
        dueAnswers("=aa", 1);
        dueAnswers("=(ab)(ab)", 1);
        dueAnswers("&=ab=ba", 1);
        dueAnswers("&=ab&=bc=ca", 1);
        dueAnswers("=a(an)", 0);
        dueAnswers("=a(na)", 0);
        dueAnswers("=(an)a", 0);
        dueAnswers("=a(1(2(3a)))", 0);
        dueAnswers("&=ab=b(a1)", 0);
        dueAnswers("&=b(a1)=ab", 0);
        dueAnswers("&=a(b1)=b(a1)", 0);
        dueAnswers("&=a(b1)&=b(c1)=c(1(a1))", 0);
        dueAnswers("=(ab)((b1)(a1))", 0);
        dueAnswers("=(ab)((c1)(d1))", 1);
        dueAnswers("&=a1=a(a1)", 0);
    }

    /** "states .., each its own bindings" */
    private static void eachItsOwnBindings() {
        GoalsInAQueue x = Calls.after("|&=a1=b2|=b1=a(bc)", 30);
        String[] a = {"_0", "(_0._1)", "1"};
        String[] b = {"1", "_0", "2"};
        for (int i = 0; i < 3; i++) {
            Calls.dueText(x, i, A, a[i]);
            Calls.dueText(x, i, B, b[i]);
        }
    }

    /** "Has it nothing to do, it is an ANSWER." */
    private static void answerIsAStepOfItsOwn() {
        GoalsInAQueue x = Calls.with("=a1");
        Check.due("the goal's own step", x.steps(1), 0);
        dueQueue("nothing to do", x, 1, 0, 1, 0, 0, 6);
        Check.due("not done", x.done(), 0);
        Check.due("the answer's step", x.steps(1), 1);
        Check.due("when", x.when(0), 2);
        Check.due("step", x.count(0), 2);
        Check.due("done", x.done(), 1);
    }

    /** ""=": .. if that fails, the STATE is gone" */
    private static void sameOrGone() {
        GoalsInAQueue x = Calls.with("&=12*");
        Check.due("two steps", x.steps(2), 0);
        Check.due("the queue has none", x.queue(STATES), 0);
        Check.due("done", x.done(), 1);
        Check.due("nothing lost", x.queue(LOST), 0);
        Check.due("no step more", x.steps(9), 0);
        Check.due("step", x.count(0), 2);
    }

    /** ""&": both GOALS are to be done in its place, the first one first." */
    private static void firstGoalFirst() {
        GoalsInAQueue x = Calls.with("&&!**");
        x.steps(2);
        Check.due("three to do", x.queue(TODO), 3);
        x.steps(1);
        Check.due("the first one fails first", x.queue(STATES), 0);
        GoalsInAQueue y = Calls.with("&*&!*");
        x.steps(1);
        y.steps(3);
        Check.due("two to do", y.queue(TODO), 2);
        y.steps(1);
        Check.due("the second one fails then", y.queue(STATES), 0);
        Check.due("step", y.count(0), 4);
    }

    /** ""|": two STATES, one with the first GOAL in its place, one with the second."; "in the order told" */
    private static void twoStatesInOrder() {
        GoalsInAQueue x = Calls.after("&||=a1=a2|=a3=a4=b9", 60);
        Check.due("four answers", x.answers(), 4);
        for (int i = 0; i < 4; i++) {
            Calls.dueText(x, i, A, "" + (i + 1));
            Calls.dueText(x, i, B, "9");
        }
        GoalsInAQueue y = Calls.after("|&*=a1=a2", 60);
        Calls.dueText(y, 0, A, "2");
        Calls.dueText(y, 1, A, "1");
        Check.due("behind all others", y.when(0), 5);
        Check.due("behind all others, twice", y.when(1), 7);
    }

    /** ""*": nothing more. "!": the STATE is gone." */
    private static void nothingMoreAndGone() {
        GoalsInAQueue x = Calls.with("|*!");
        x.steps(1);
        dueQueue("two", x, 2, 0, 2, 1, 0, 6);
        x.steps(1);
        dueQueue("one has nothing to do, and waits behind the other", x, 2, 0, 2, 1, 0, 6);
        x.steps(1);
        dueQueue("the other is gone", x, 1, 0, 2, 0, 0, 6);
        Check.due("one answer", x.steps(9), 1);
        Check.due("at step", x.when(0), 4);
    }

    private static void dueFirstSteps(String goal, int states, int first, int second) {
        GoalsInAQueue x = Calls.with(goal);
        x.steps(1);
        Check.due(goal + ": states", x.queue(STATES), states);
        Check.due(goal + ": variables of the first", x.queue(VARIABLES), first);
        if (second != 0) {
            x.steps(1);
            Check.due(goal + ": variables of the second", x.queue(VARIABLES), second);
            Check.due(goal + ": the second has one to do", x.queue(TODO), 1);
        }
        Check.due(goal + ": none lost", x.queue(LOST), 0);
    }

    /** ""A" x y z ..: one with x EMPTY and y the same as z, one with, for FRESH h, t, u: .."; "gone" if they fail. */
    private static void appendOfEmptyAndOthers() {
        dueFirstSteps("Aabc", 2, 6, 9);
        dueFirstSteps("Anbc", 1, 6, 0);
        dueFirstSteps("An1b", 1, 6, 0);
        dueFirstSteps("An12", 0, -9, 0);
        dueFirstSteps("A1bc", 0, -9, 0);
        dueFirstSteps("A(12)bc", 1, 9, 0);
        dueFirstSteps("A(12)b3", 0, -9, 0);
        dueFirstSteps("A(12)bn", 0, -9, 0);
        dueFirstSteps("A(12)b(3c)", 0, -9, 0);
        dueFirstSteps("A(12)b(1c)", 1, 9, 0);
        dueFirstSteps("Aab(1c)", 2, 6, 9);
        dueFirstSteps("Aab1", 1, 6, 0);
        dueFirstSteps("Aa1n", 0, -9, 0);
        dueFirstSteps("Aab(1b)", 1, 9, 0);
        dueFirstSteps("Aaba", 2, 6, 9);
        dueAnswers("Annn", 1);
        dueAnswers("A(12)bc", 0);
        dueAnswers("A(1n)nb", 1);
    }

    /** ""A" t y u"; "what is behind "then" is to do first" */
    private static void appendInOrder() {
        GoalsInAQueue x = Calls.with("&Aab(1(2n))#cc");
        x.steps(2);
        dueQueue("the first has the rest to do", x, 2, 0, 2, 1, 0, 6);
        x.steps(1);
        Check.due("the first is gone by it", x.queue(STATES), 1);
        Check.due("the second has A and the rest to do", x.queue(TODO), 2);
        x.steps(1);
        Check.due("A was done first", x.queue(STATES), 2);
        GoalsInAQueue y = Calls.after("Aab(1(2n))", 60);
        String[] a = {"n", "(1.n)", "(1.(2.n))"};
        String[] b = {"(1.(2.n))", "(2.n)", "n"};
        Check.due("three answers", y.answers(), 3);
        for (int i = 0; i < 3; i++) {
            Calls.dueText(y, i, A, a[i]);
            Calls.dueText(y, i, B, b[i]);
            Check.due("when " + i, y.when(i), 2 * i + 2);
        }
        Check.due("last step: A of what is no list any more", y.count(0), 6);
        GoalsInAQueue z = Calls.after("Aa(3n)(1(2(3n)))", 60);
        Check.due("one answer", z.answers(), 1);
        Calls.dueText(z, 0, A, "(1.(2.n))");
    }

    /** ""M" x l ..: one with, for a FRESH t: ..; one with, for FRESH h, t: .."; "gone" if they fail. */
    private static void memberOfEmptyAndOthers() {
        dueFirstSteps("Mab", 2, 7, 8);
        dueFirstSteps("Man", 0, -9, 0);
        dueFirstSteps("Ma1", 0, -9, 0);
        dueFirstSteps("M1(1n)", 2, 7, 8);
        dueFirstSteps("M2(1n)", 1, 8, 0);
        dueFirstSteps("Maa", 1, 8, 0);
        dueFirstSteps("Ma(an)", 2, 7, 8);
        dueFirstSteps("Ma((a1)b)", 1, 8, 0);
        dueAnswers("M2(1n)", 0);
        dueAnswers("M2(1(2n))", 1);
        dueAnswers("M2(2(2n))", 2);
        dueAnswers("M2(12)", 0);
    }

    /** ""M" x t"; "what is behind "then" is to do first" */
    private static void memberInOrder() {
        GoalsInAQueue x = Calls.with("&Ma(1(2n))#bb");
        x.steps(2);
        dueQueue("the first has the rest to do", x, 2, 0, 2, 1, 0, 7);
        x.steps(1);
        Check.due("the first is gone by it", x.queue(STATES), 1);
        Check.due("the second has M and the rest to do", x.queue(TODO), 2);
        x.steps(1);
        Check.due("M was done first", x.queue(STATES), 2);
        Check.due("one more", x.queue(VARIABLES), 9);
        GoalsInAQueue y = Calls.after("Ma(3(1(2n)))", 60);
        String[] a = {"3", "1", "2"};
        Check.due("three answers", y.answers(), 3);
        for (int i = 0; i < 3; i++) {
            Calls.dueText(y, i, A, a[i]);
        }
        GoalsInAQueue z = Calls.after("Mab", 6);
        Calls.dueText(z, 0, B, "(_0._1)");
        Calls.dueText(z, 1, B, "(_0.(_1._2))");
        Calls.dueText(z, 1, A, "_0");
    }

    /** "two TERMS that are the same by the BINDINGS: the STATE is gone" */
    private static void keptWhenTheSame() {
        for (String goal : new String[] {"#aa", "#11", "#nn", "#(ab)(ab)", "#(1n)(1n)"}) {
            GoalsInAQueue x = Calls.after(goal, 1);
            Check.due(goal + ": gone at once", x.queue(STATES), 0);
            Check.due(goal + ": not lost", x.queue(LOST), 0);
        }
        String[] later = {"&=ab#ab", "&#ab=ab", "&#ab=ba", "&#a1=a1", "&#(ab)(1n)=(ab)(1n)", "&#an=an"};
        for (String goal : later) {
            GoalsInAQueue x = Calls.with(goal);
            x.steps(2);
            Check.due(goal + ": not yet", x.queue(STATES), 1);
            x.steps(1);
            Check.due(goal + ": gone", x.queue(STATES), 0);
        }
        dueAnswers("&#ab&=ac=bc", 0);
        dueAnswers("&#(ab)(cd)&=ac=bd", 0);
        dueAnswers("&#(ab)(cd)&=ac=b1", 1);
        dueAnswers("&#ab&#cd=cd", 0);
        dueAnswers("&#cd&#ab=cd", 0);
    }

    private static void dueKept(String goal, int due) {
        GoalsInAQueue x = Calls.after(goal, 30);
        Check.due("answers of " + goal, x.answers(), 1);
        Check.due("kept by " + goal, x.kept(0), due);
    }

    /** "two that can't be UNIFIED by them: KEPT no more" */
    private static void keptNoMore() {
        dueKept("*", 0);
        dueKept("#ab", 1);
        dueKept("#12", 0);
        dueKept("#1n", 0);
        dueKept("#n(ab)", 0);
        dueKept("#a(ab)", 0);
        dueKept("#a(bc)", 1);
        dueKept("#(a1)(b2)", 0);
        dueKept("#(a1)(b1)", 1);
        dueKept("#(aa)(12)", 0);
        dueKept("#(aa)(bc)", 1);
        dueKept("&#ab=a1", 1);
        dueKept("&#ab&=a1=b2", 0);
        dueKept("&#ab=a(b1)", 0);
        dueKept("&=a1#ab", 1);
        dueKept("&=a1#a2", 0);
        dueKept("&#(ab)(12)=a1", 1);
        dueKept("&#(ab)(12)=a2", 0);
        dueKept("&#ab&#cd=a1", 2);
        dueKept("&#ab&#cd&=a1=b2", 1);
        dueKept("&#ab&#cd&=c1=dn", 1);
        // What a look at KEPT ones binds is taken back.
        GoalsInAQueue x = Calls.after("&#(ab)(12)#(a3)(b3)", 30);
        Calls.dueText(x, 0, A, "_0");
        Calls.dueText(x, 0, B, "_0");
        Check.due("both kept", x.kept(0), 2);
        GoalsInAQueue y = Calls.after("&#(ab)(1n)=bc", 30);
        Calls.dueText(y, 0, A, "_0");
    }

    /** "In both the first UNIFIES .. (.. KEPT ones are looked at again)" */
    private static void keptLookedAtByRelations() {
        GoalsInAQueue x = Calls.after("&#anAabc", 3);
        dueQueue("A: the first is gone, in the second it is kept no more", x, 1, 0, 1, 1, 0, 9);
        GoalsInAQueue y = Calls.after("&#bcAabc", 3);
        dueQueue("A: the first is gone, in the second it is kept", y, 1, 0, 1, 1, 1, 9);
        GoalsInAQueue z = Calls.after("&#a(bc)A(1n)da", 3);
        dueQueue("A: by z", z, 1, 0, 1, 1, 1, 9);
        GoalsInAQueue m = Calls.after("&#a1Ma(1(2n))", 3);
        dueQueue("M: the first is gone, in the second it is kept", m, 1, 0, 1, 1, 1, 8);
        m.steps(1);
        dueQueue("M: by the second of the list it is kept no more", m, 2, 0, 2, 0, 0, 9);
        GoalsInAQueue p = Calls.after("&#bnMab", 3);
        dueQueue("M: kept no more in both", p, 2, 0, 2, 0, 0, 7);
        p.steps(1);
        Check.due("M: kept no more in the second", p.queue(KEPT), 0);
    }

    /** ""#": the two TERMS are KEPT": as many as there are. */
    private static void keptAtMost() {
        String goal = "&".repeat(11) + "#a1#b1#c1#d1#e1#f1#a2#b2#c2#d2#e2#f2";
        GoalsInAQueue x = Calls.after(goal, 23);
        Check.due("12 kept in the first", x.queue(KEPT), 12);
        Check.due("12 kept: an answer", x.steps(1), 1);
        Check.due("12 kept in it", x.kept(0), 12);
        dueKept("&#ab#ab", 2);
    }

    /** "A STATE with more than 60 VARIABLES (FRESH ones so far and 6) .. is LOST instead (1 more)." */
    private static void variablesAtMost60() {
        GoalsInAQueue x = Calls.after("Aabc", 35);
        dueQueue("57 and nothing to do", x, 2, 0, 2, 0, 0, 57);
        x.steps(1);
        dueQueue("60 are not lost", x, 1, 0, 2, 1, 0, 60);
        x.steps(1);
        dueQueue("63 are lost, the 60 of the other are not", x, 1, 1, 2, 0, 0, 60);
        Check.due("an answer with 60", x.steps(1), 19);
        Check.due("done", x.done(), 1);
        Check.due("lost counted", x.count(5), 1);

        GoalsInAQueue m = Calls.after("Mab", 53);
        dueQueue("59 and nothing to do", m, 2, 0, 2, 0, 0, 59);
        m.steps(1);
        dueQueue("60 are not lost", m, 1, 0, 2, 1, 0, 60);
        m.steps(1);
        dueQueue("61 are lost, 62 are lost", m, 0, 2, 2, -9, -9, -9);
        Check.due("27 answers", m.answers(), 27);

        GoalsInAQueue ten = Calls.after(TEN_LOST, 288);
        dueQueue("the last of ten", ten, 1, 9, 10, 1, 0, 60);
        Check.due("not done", ten.done(), 0);
        ten.steps(1);
        Check.due("ten are lost", ten.queue(LOST), 10);
        Check.due("done by that", ten.done(), 1);
    }

    /** "A STATE .. behind 40 others in THE QUEUE as it goes there, is LOST instead (1 more)." */
    private static void behind40Others() {
        GoalsInAQueue x = Calls.with("&|**&|**&|**&|**&|**|**");
        Calls.go(x, 108 + 16);
        dueQueue("32 have five behind them", x, 32, 0, 32, 1, 0, 6);
        x.steps(7);
        dueQueue("one more by each", x, 39, 0, 39, 1, 0, 6);
        x.steps(1);
        dueQueue("behind 39 others is not lost", x, 40, 0, 40, 1, 0, 6);
        x.steps(1);
        dueQueue("behind 40 others is lost", x, 40, 1, 40, 1, 0, 6);
        x.steps(23);
        dueQueue("one is lost by each", x, 40, 24, 40, 1, 0, 6);
        x.steps(40);
        dueQueue("one that leaves has room behind the others", x, 40, 24, 40, 0, 0, 6);
        Check.due("lost counted", x.count(5), 24);

        GoalsInAQueue y = Calls.with("&|**&|**&|**&|**&|**Aabc");
        Calls.go(y, 108 + 16 + 8);
        dueQueue("A: 40", y, 40, 0, 40, 1, 0, 6);
        y.steps(24);
        dueQueue("A: its second is lost", y, 40, 24, 40, 0, 0, 6);
    }

    /** "(a STATE for which they fail is gone ..)": it is not LOST, though it has more than 60 VARIABLES. */
    private static void goneIsNotLost() {
        GoalsInAQueue x = Calls.after("Aab" + Calls.ones(18), 36);
        dueQueue("60 of a list", x, 1, 0, 2, 1, 0, 60);
        x.steps(1);
        dueQueue("the second is gone", x, 1, 0, 2, 0, 0, 60);
        Check.due("19 answers", x.steps(9), 19);
    }

    /** "DONE: THE QUEUE is empty, .." */
    private static void doneByAnEmptyQueue() {
        GoalsInAQueue x = Calls.with("|!!");
        Check.due("not done", x.done(), 0);
        x.steps(2);
        Check.due("one waits", x.done(), 0);
        x.steps(1);
        Check.due("none waits", x.done(), 1);
        Check.due("without an answer", x.answers(), 0);
        GoalsInAQueue y = Calls.after("*", 1);
        Check.due("one has nothing to do", y.done(), 0);
        y.steps(1);
        Check.due("it is an answer", y.done(), 1);
    }

    /** "DONE: .., or there are 30 ANSWERS." */
    private static void doneBy30Answers() {
        GoalsInAQueue x = Calls.with(THIRTY_TWO);
        Calls.go(x, 137);
        Check.due("29 answers", x.answers(), 29);
        Check.due("29 are not enough", x.done(), 0);
        Check.due("30 answers", x.steps(1), 30);
        Check.due("30 are", x.done(), 1);
        Check.due("two wait still", x.queue(STATES), 2);
        Check.due("no more of them", x.steps(100), 30);
        Check.due("step", x.count(0), 138);
        Check.due("the last one came", x.when(29), 138);
        Check.due("there is none behind it", x.when(30), -1);
    }

    /** "A STEP (if the SEARCH is not DONE)"; "fewer, if it is DONE ahead of that" */
    private static void noStepWhenDone() {
        GoalsInAQueue x = Calls.with("=a1");
        Check.due("steps 100", x.steps(100), 1);
        Check.due("two were made", x.count(0), 2);
        Check.due("steps of the done", x.steps(1), 1);
        Check.due("none was made", x.count(0), 2);
        Check.due("share stays", x.share(1), 2);
        GoalsInAQueue y = Calls.after(THIRTY_TWO, 100);
        Check.due("fewer than 100 more", y.steps(100), 30);
        Check.due("38 were made", y.count(0), 138);
        Calls.refusals(y);
    }

    /** "n STEPS (1 .. 100 ..): .. -4; -6 (100; ..)." */
    private static void stepsFrom1To100() {
        GoalsInAQueue x = Calls.with("&Aabc&Adef!");
        int[] least = {0, -1, Integer.MIN_VALUE};
        int[] most = {101, 301, Integer.MAX_VALUE};
        for (int i = 0; i < 3; i++) {
            Check.due("steps " + least[i], x.steps(least[i]), -4);
            Check.due("steps " + most[i], x.steps(most[i]), -6);
        }
        Check.due("none was made", x.count(0), 0);
        x.steps(1);
        Check.due("one was made", x.count(0), 1);
        x.steps(100);
        Check.due("100 were made", x.count(0), 101);
        Calls.refusals(x, 0, 0, 0, 3, 0, 3);
    }

    /** "-6 (..; STEP above 300, were all n made)." */
    private static void stepsAtMost300() {
        GoalsInAQueue x = Calls.after("&Aabc&Adef!", 201);
        Check.due("above 300", x.steps(100), -6);
        Check.due("none was made", x.count(0), 201);
        Check.due("300", x.steps(99), 0);
        Check.due("all were made", x.count(0), 300);
        Check.due("not done", x.done(), 0);
        Check.due("one above 300", x.steps(1), -6);
        Calls.refusals(x, 0, 0, 0, 0, 0, 2);

        // DONE at STEP 289, so not all n would be made.
        GoalsInAQueue y = Calls.after(TEN_LOST, 289);
        Check.due("done", y.done(), 1);
        Check.due("above 300, were all made", y.steps(12), -6);
        Check.due("up to 300", y.steps(11), 0);
        Check.due("none was made", y.count(0), 289);
        Calls.refusals(y, 0, 0, 0, 0, 0, 1);

        GoalsInAQueue z = Calls.after("&Aabc&Adef!", 100);
        z.image();
        Calls.go(z, 200);
        Check.due("none left", z.steps(1), -6);
        z.on();
        Check.due("some left from the image on", z.steps(100), 0);
        Check.due("step", z.count(0), 200);
    }

    /** "3 how many GOALS the first one has to do (-9 there is none), 4 .. (-9), 5 .. (-9)." */
    private static void queueOfNone() {
        GoalsInAQueue x = Calls.after("!", 1);
        dueQueue("none", x, 0, 0, 1, -9, -9, -9);
        Calls.refusals(x);
        Check.due("queue 6", x.queue(6), -2);
        Check.due("queue -1", x.queue(-1), -2);
        Check.due("queue greatest", x.queue(Integer.MAX_VALUE), -2);
        Check.due("queue least", x.queue(Integer.MIN_VALUE), -2);
        Calls.refusals(x, 0, 4);
    }

    /** "2 the most STATES that were in it behind a STEP so far (1 at STEP 0)" */
    private static void queueMost() {
        GoalsInAQueue x = Calls.with("||**|*!");
        int[] due = {1, 2, 3, 4, 4, 4, 4, 4, 4, 4, 4};
        int[] states = {1, 2, 3, 4, 4, 4, 4, 3, 2, 1, 0};
        for (int step = 0; step < due.length; step++) {
            Check.due("most at step " + step, x.queue(MOST), due[step]);
            Check.due("states at step " + step, x.queue(STATES), states[step]);
            x.steps(1);
        }
        x.image();
        Calls.retell(x, "*");
        Check.due("anew", x.queue(MOST), 1);
        x.on();
        Check.due("as then", x.queue(MOST), 4);
    }
}
