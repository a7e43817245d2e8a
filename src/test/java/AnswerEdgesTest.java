/** A test for each sentence about ANSWERS, the SEARCH anew, the ROW, LOTS and THE IMAGE that names a boundary case. */
public final class AnswerEdgesTest {
    private static final int A = 0;
    private static final int B = 1;
    private static final int C = 2;
    private static final int E = 4;
    private static final int F = 5;
    /** 16 ANSWERS, one a step from step 109 on: 60 steps, and 16 times three for the list of two. */
    private static final String SIXTEEN = "&|**&|**&|**&|**A(1(1n))bc";

    private AnswerEdgesTest() {
    }

    public static void main(String[] args) {
        noSuchAnswer();
        noSuchVariable();
        textOfVariables();
        textNumbersOpenOnes();
        textNumbersModulo10();
        textAtMost200();
        textLetterByLetter();
        whenItCame();
        keptInIt();
        differentOnes();
        differentBy200Letters();
        earliestOnes();
        meetOrNot();
        meetOthersOpenOnes();
        needFrom1To10();
        needOf300();
        leftOfAtoms();
        leftBehind120();
        leftAheadOfAll();
        leastAtom();
        turnedGoals();
        turnedBehind120();
        shareInLeastTerms();
        whichByTheRow();
        rowFrom0To127();
        rowAtMost32();
        judged();
        judgedRowIsEmptied();
        cleared();
        lotsFrom1To20();
        lotsByDraws();
        imageAndOn();
        countOfWhat();
        Check.end("AnswerEdgesTest");
    }

    private static String text(GoalsInAQueue x, int i) {
        return Calls.text(x, i, A);
    }

    /** "-1 NOBODY: no such ANSWER" */
    private static void noSuchAnswer() {
        GoalsInAQueue none = Calls.with("=a1");
        GoalsInAQueue two = Calls.after("|=a1=a2", 9);
        int refused = 0;
        for (int i : new int[] {2, 3, 30, 100, -1, Integer.MAX_VALUE, Integer.MIN_VALUE}) {
            dueNoAnswer(two, i);
            refused += 7;
        }
        Calls.refusals(two, refused);
        dueNoAnswer(none, 0);
        Calls.refusals(none, 7);
        Check.due("the last one is there", two.when(1), 5);
        // An ANSWER of the goal before is none any more.
        Calls.retell(two, "*");
        dueNoAnswer(two, 0);
    }

    private static void dueNoAnswer(GoalsInAQueue x, int i) {
        Check.due("length " + i, x.length(i, A), -1);
        Check.due("text " + i, x.text(i, A, 0), -1);
        Check.due("when " + i, x.when(i), -1);
        Check.due("kept " + i, x.kept(i), -1);
        Check.due("earliest " + i, x.earliest(i, A), -1);
        Check.due("meet " + i, x.meet(i, i), -1);
        Check.due("judge " + i, x.judge(i), -1);
    }

    /** "-1 NOBODY: no such .. VARIABLE"; "a VARIABLE a .. f (0 .. 5)" */
    private static void noSuchVariable() {
        GoalsInAQueue x = Calls.after("=a1", 9);
        int refused = 0;
        for (int v : new int[] {-1, 6, 7, Integer.MAX_VALUE, Integer.MIN_VALUE}) {
            Check.due("length of " + v, x.length(0, v), -1);
            Check.due("text of " + v, x.text(0, v, 0), -1);
            Check.due("different " + v, x.different(v), -1);
            Check.due("earliest of " + v, x.earliest(0, v), -1);
            Check.due("left by " + v, x.left(v, 0), -1);
            Check.due("least " + v, x.least(v), -1);
            Check.due("which " + v, x.which(v), -1);
            refused += 7;
        }
        Calls.refusals(x, refused);
        for (int v = 0; v <= 5; v++) {
            Check.due("length of " + v, x.length(0, v), v == A ? 1 : 2);
            Check.due("different " + v, x.different(v), 1);
            Check.due("earliest of " + v, x.earliest(0, v), 0);
            Check.due("left by " + v, x.left(v, 1), 1);
            Check.due("least " + v, x.least(v), v == A ? 1 : 0);
            Check.due("which " + v, x.which(v), v == A ? 2 : 1023);
        }
        Calls.refusals(x, refused);
    }

    /** "a VARIABLE that is a TERM: as that; ..; an ATOM its digit; EMPTY "n"; a PAIR "(" TERM "." TERM ")"." */
    private static void textOfVariables() {
        GoalsInAQueue x = Calls.after("&=ab&=bc&=cd&=d(0(9n))=e((n0)(fn))", 30);
        for (int v = A; v <= 3; v++) {
            Calls.dueText(x, 0, v, "(0.(9.n))");
        }
        Calls.dueText(x, 0, E, "((n.0).(_0.n))");
        Calls.dueText(x, 0, F, "_0");
        GoalsInAQueue open = Calls.after("&=ab=bc", 9);
        for (int v = 0; v <= 5; v++) {
            Calls.dueText(open, 0, v, "_0");
        }
    }

    /** "the open VARIABLES of this TEXT are numbered 0, 1, .. as they first stand in it" */
    private static void textNumbersOpenOnes() {
        GoalsInAQueue x = Calls.after("&=a(f(e(ff)))&=b(e(fc))=cd", 30);
        Calls.dueText(x, 0, A, "(_0.(_1.(_0._0)))");
        Calls.dueText(x, 0, B, "(_0.(_1._2))");
        Calls.dueText(x, 0, C, "_0");
        Calls.dueText(x, 0, E, "_0");
        Calls.dueText(x, 0, F, "_0");
    }

    /** "numbered .. (modulo 10)" */
    private static void textNumbersModulo10() {
        GoalsInAQueue x = Calls.after("&Aabc=d(ca)", 100);
        StringBuilder ten = new StringBuilder();
        for (int i = 0; i < 10; i++) {
            ten.append("(_").append(i).append('.');
        }
        // An ANSWER with a list of 9, 10 and 11 open ones and an open end.
        Calls.dueText(x, 9, C, ten.substring(0, 36) + "_9" + ")".repeat(9));
        Calls.dueText(x, 10, C, ten + "_0" + ")".repeat(10));
        Calls.dueText(x, 11, C, ten + "(_0._1)" + ")".repeat(10));
        // The 11th and the first one bear one name, though they are two.
        Calls.dueText(x, 11, 3, "(" + ten + "(_0._1)" + ")".repeat(10) + "." + ten + "(_0.n)" + ")".repeat(10) + ")");
    }

    /** "It has 200 letters at most (what is behind these is left out)." */
    private static void textAtMost200() {
        // m leaves of so many letters l make 3 * (m - 1) + m * l letters.
        String six = "(b(b(b(b(bb)))))";
        String seven = "(b(b(b(b(b(bb))))))";
        GoalsInAQueue less = Calls.after("&=a" + six + "=b(1(1(1(1(1(1(11)))))))", 9);
        Check.due("29 letters", less.length(0, B), 29);
        Check.due("189 letters", less.length(0, A), 189);
        GoalsInAQueue just = Calls.after("&=a" + seven + "=b(1(1(1(1(1(1c))))))", 9);
        Check.due("26 letters", just.length(0, B), 26);
        Check.due("200 letters", just.length(0, A), 200);
        Check.due("the last of 200", just.text(0, A, 199), ')');
        Check.due("none behind 200", just.text(0, A, 200), -9);
        GoalsInAQueue more = Calls.after("&=a" + six + "=b(1(1(1(1(1(1(cc)))))))", 9);
        Check.due("31 letters", more.length(0, B), 31);
        Check.due("200 of 201 letters", more.length(0, A), 200);
        Check.due("the last of 200", more.text(0, A, 199), ')');
        Check.due("the last is left out", more.text(0, A, 200), -9);
        Check.holds("as many are closed as are told", text(more, 0).chars().filter(c -> c == '(').count() - 1
            == text(more, 0).chars().filter(c -> c == ')').count());
        GoalsInAQueue many = Calls.after("&=a" + seven + "&=b" + seven.replace('b', 'c') + "=c(1(2(3d)))", 30);
        Check.due("200 of many", many.length(0, A), 200);
        Check.due("none behind 200 of many", many.text(0, A, 200), -9);
        Check.due("none far behind", many.text(0, A, Integer.MAX_VALUE), -9);
    }

    /** "The k-th letter of the TEXT (0 ..); -9 it has not so many. -1 either; -4." */
    private static void textLetterByLetter() {
        GoalsInAQueue x = Calls.after("=a(1b)", 9);
        int[] due = {'(', '1', '.', '_', '0', ')', -9, -9};
        for (int k = 0; k < due.length; k++) {
            Check.due("letter " + k, x.text(0, A, k), due[k]);
        }
        Check.due("length", x.length(0, A), 6);
        Calls.refusals(x);
        Check.due("letter -1", x.text(0, A, -1), -4);
        Check.due("letter least", x.text(0, A, Integer.MIN_VALUE), -4);
        Check.due("of no answer", x.text(1, A, -1), -1);
        Check.due("of no variable", x.text(0, 6, -1), -1);
        Calls.refusals(x, 2, 0, 0, 2);
    }

    /** "The STEP at which the i-th ANSWER came." */
    private static void whenItCame() {
        GoalsInAQueue x = Calls.after(SIXTEEN, 124);
        for (int i = 0; i < 16; i++) {
            Check.due("when " + i, x.when(i), 109 + i);
        }
        Check.due("the first can come", Calls.after("*", 2).when(0), 2);
    }

    /** "how many are KEPT in it" */
    private static void keptInIt() {
        GoalsInAQueue x = Calls.after("&#ab|=a1&#cd&=b1*", 30);
        Check.due("of the first", x.kept(0), 1);
        Check.due("of the second", x.kept(1), 2);
        Check.due("none", Calls.after("*", 2).kept(0), 0);
    }

    /** "DIFFERENT: how many TEXTS of a VARIABLE there are among ANSWERS, alike ones once." */
    private static void differentOnes() {
        Check.due("no answer", Calls.with("*").different(A), 0);
        Check.due("one answer", Calls.after("*", 2).different(A), 1);
        GoalsInAQueue x = Calls.after("|||=a1=a2|=a1=a(bc)|=a(cb)|=a(bb)=an", 40);
        Check.due("seven answers", x.answers(), 7);
        Check.due("five texts", x.different(A), 5);
        Check.due("one of others", x.different(B), 1);
        GoalsInAQueue most = Calls.after("Mab", 100);
        Check.due("27 answers", most.answers(), 27);
        Check.due("27 texts of a list", most.different(B), 27);
        GoalsInAQueue thirty = Calls.after("&|**&|**&|**&|**|**", 200);
        Check.due("30 alike", thirty.different(F), 1);
    }

    /** What is behind 200 letters is left out: TEXTS that differ there alone are alike. */
    private static void differentBy200Letters() {
        String c = "&=c(1(1(1(1(1(11))))))";
        // b has 197 letters, so f is the 200th of a.
        GoalsInAQueue x = Calls.after(c + "&=b(c(c(c(c(c(c(c1)))))))&=a(bf)|=f1=f2", 40);
        Check.due("197 letters", x.length(0, B), 197);
        Check.due("two by the 200th letter", x.different(A), 2);
        Check.due("earliest by the 200th letter", x.earliest(1, A), 1);
        Check.due("the 200th letter", x.text(1, A, 199), '2');
        // b has 198 letters, so f would be the 201st of a.
        GoalsInAQueue y = Calls.after(c + "&=b(c(c(c(c(c(c(cd)))))))&=a(bf)|=f1=f2", 40);
        Check.due("198 letters", y.length(0, B), 198);
        Check.due("one by 200 letters", y.different(A), 1);
        Check.due("earliest by 200 letters", y.earliest(1, A), 0);
        Check.due("the 200th letter", y.text(1, A, 199), '.');
        Check.due("two of f", y.different(F), 2);
        // "_" is the 200th letter, and its digit is left out.
        GoalsInAQueue z = Calls.after(c + "&=b(c(c(c(c(c(c(c1)))))))=a(bf)", 40);
        Check.due("half a name", z.text(0, A, 199), '_');
        Check.due("not the other half", z.text(0, A, 200), -9);
    }

    /** "EARLIEST: the first ANSWER whose TEXT of a VARIABLE is as that of the i-th." */
    private static void earliestOnes() {
        GoalsInAQueue x = Calls.after("|||=a1=a2|=a1=a(bc)||=a(cb)=a(bb)|=a2=a1", 40);
        int[] due = {0, 1, 0, 3, 3, 5, 1, 0};
        for (int i = 0; i < 8; i++) {
            Check.due("earliest " + i, x.earliest(i, A), due[i]);
            Check.due("earliest of f " + i, x.earliest(i, F), 0);
        }
        GoalsInAQueue last = Calls.after("&|**&|**&|**&|**|**", 200);
        Check.due("of the 30th", last.earliest(29, A), 0);
        Check.due("of the 31st", last.earliest(30, A), -1);
    }

    /** "a .. f of two ANSWERS can all be UNIFIED together (KEPT ones no matter)" */
    private static void meetOrNot() {
        GoalsInAQueue x = Calls.after("|||=a1=a2|=a(1b)=a(c2)||=f1=f2|*=a(1(12))", 40);
        int[][] due = {
            {1, 0, 0, 0, 1, 1, 1, 0},
            {0, 1, 0, 0, 1, 1, 1, 0},
            {0, 0, 1, 1, 1, 1, 1, 1},
            {0, 0, 1, 1, 1, 1, 1, 0},
            {1, 1, 1, 1, 1, 0, 1, 1},
            {1, 1, 1, 1, 0, 1, 1, 1},
            {1, 1, 1, 1, 1, 1, 1, 1},
            {0, 0, 1, 0, 1, 1, 1, 1},
        };
        for (int i = 0; i < 8; i++) {
            for (int j = 0; j < 8; j++) {
                Check.due("meet " + i + " " + j, x.meet(i, j), due[i][j]);
            }
        }
        Check.due("kept ones no matter", Calls.after("|#a1=a1", 9).meet(0, 1), 1);
        Check.due("all together", Calls.after("|=ab&=a1=b2", 20).meet(0, 1), 0);
        Check.due("each alone would do", Calls.after("|=ab&=a1=c2", 20).meet(0, 1), 1);
    }

    /** "with all open VARIABLES of the one taken as others than those of the other one" */
    private static void meetOthersOpenOnes() {
        Check.due("b of the one is b of the other", Calls.after("|=a(bn)=b(an)", 9).meet(0, 1), 0);
        Check.due("fresh ones are others", Calls.after("|Mca=a(1(2n))", 20).meet(0, 1), 1);
        GoalsInAQueue x = Calls.after("&Mab|=c1=c(bn)", 20);
        Check.due("with itself", x.meet(0, 0), 1);
        GoalsInAQueue ends = Calls.after("Mab", 60);
        for (int i = 0; i < 27; i++) {
            Check.due("open ends 0 " + i, ends.meet(0, i), 1);
            Check.due("open ends " + i + " 0", ends.meet(i, 0), 1);
            Check.due("open ends " + i + " 13", ends.meet(i, 13), 1);
        }
        GoalsInAQueue lists = Calls.after("Aabc", 38);
        for (int i = 0; i < 19; i++) {
            Check.due("with itself " + i, lists.meet(i, i), 1);
            Check.due("of another length " + i, lists.meet(0, i), i == 0 ? 1 : 0);
            Check.due("of another length " + i, lists.meet(i, 18), i == 18 ? 1 : 0);
        }
    }

    /** "NEED: the STEPS by which there are k ANSWERS (1 .. 10)"; "-4; -6 10" */
    private static void needFrom1To10() {
        GoalsInAQueue x = Calls.with("Aabc");
        Check.due("need 1", x.need(1), 2);
        Check.due("need 10", x.need(10), 20);
        Check.due("need 0", x.need(0), -4);
        Check.due("need least", x.need(Integer.MIN_VALUE), -4);
        Check.due("need 11", x.need(11), -6);
        Check.due("need greatest", x.need(Integer.MAX_VALUE), -6);
        Calls.refusals(x, 0, 0, 0, 2, 0, 2);
        x.steps(100);
        Check.due("behind all steps", x.need(3), 6);
        GoalsInAQueue two = Calls.with("|=a1=a2");
        Check.due("just as many", two.need(2), 5);
        Check.due("too few", two.need(3), -9);
        Check.due("none", Calls.with("!").need(1), -9);
    }

    /** "NEED: .., of 300 at most; -9." */
    private static void needOf300() {
        // 60 steps and 16 times 14 for the list of 13: 16 ANSWERS from 285 on, later by what is ahead.
        String late = "&|**&|**&|**&|**A" + Calls.ones(13) + "bc";
        GoalsInAQueue x = Calls.with("&*&*&*" + late);
        Check.due("the 9th", x.need(9), 299);
        Check.due("the 10th at 300", x.need(10), 300);
        GoalsInAQueue y = Calls.with("&*&*&A(1n)de" + late);
        Check.due("the 9th at 300", y.need(9), 300);
        Check.due("the 10th would be at 301", y.need(10), -9);
        Calls.go(y, 300);
        Check.due("it waits at step 300", y.queue(3), 0);
        Check.due("nine answers", y.answers(), 9);
        Check.due("the 9th came", y.when(8), 300);
        Check.due("no answer in 300", Calls.with("&Aabc&Adef!").need(1), -9);
    }

    /** "LEFT by a VARIABLE and an ATOM"; "-1; -4; -6 9" */
    private static void leftOfAtoms() {
        GoalsInAQueue x = Calls.with("Ma(0(9(9n)))");
        Check.due("left 0", x.left(A, 0), 1);
        Check.due("left 1", x.left(A, 1), 0);
        Check.due("left 9", x.left(A, 9), 2);
        Check.due("left 10", x.left(A, 10), -6);
        Check.due("left greatest", x.left(A, Integer.MAX_VALUE), -6);
        Check.due("left -1", x.left(A, -1), -4);
        Check.due("left least", x.left(A, Integer.MIN_VALUE), -4);
        Check.due("left of no variable, -1", x.left(6, -1), -1);
        Check.due("left of no variable, 10", x.left(-1, 10), -1);
        Calls.refusals(x, 2, 0, 0, 2, 0, 2);
        Check.due("those of 111 .. 120", Calls.with("&|**&|**&|**&|**|**").left(A, 1), 10);
        Check.due("30 at most", Calls.with("||AabcAabc|AabcAabc").left(F, 1), 30);
        Check.due("none", Calls.with("=a(bc)").left(A, 1), 0);
    }

    /** "how many ANSWERS there are behind 120 STEPS" */
    private static void leftBehind120() {
        GoalsInAQueue x = Calls.with(SIXTEEN);
        Check.due("those of 111 .. 120", x.left(F, 1), 10);
        GoalsInAQueue told = Calls.after("&=f1" + SIXTEEN, 120);
        Check.due("as told", told.answers(), 10);
        Check.due("one more at 121", told.steps(1), 11);
        Check.due("those of 113 .. 120", Calls.with("&*" + SIXTEEN).left(F, 1), 8);
        Check.due("the one of 120", Calls.with("&A" + Calls.ones(7) + "de" + SIXTEEN).left(F, 1), 1);
        Check.due("least by it", Calls.with("&A" + Calls.ones(7) + "de" + SIXTEEN).least(F), 0);
        GoalsInAQueue late = Calls.with("&A" + Calls.ones(8) + "de" + SIXTEEN);
        Check.due("none by 121", late.left(F, 1), 0);
        Check.due("no least by 121", late.least(F), -9);
        Check.due("no bits by 121", late.which(F), 0);
        Check.due("but need has 300", late.need(1), 119);
    }

    /** "if "=" these two is done ahead of all (as a GOAL, "&" it and THE GOAL)" */
    private static void leftAheadOfAll() {
        GoalsInAQueue x = Calls.with("&".repeat(11) + "*".repeat(12));
        Check.due("of 23 goals", x.left(A, 1), 1);
        GoalsInAQueue y = Calls.with("=" + Calls.ones(19) + "a");
        Check.due("of 40 terms", y.left(B, 1), 1);
        Check.due("of 40 terms that differ", y.left(A, 1), 0);
        Check.due("their count stays", y.count(3), 40);
        Check.due("goals stay", y.count(2), 1);
        GoalsInAQueue z = Calls.with("Ma(1(2(3n)))");
        z.steps(3);
        Check.due("ahead", z.left(A, 3), 1);
        Check.due("the search stays", z.count(0), 3);
        Check.due("its queue stays", z.queue(0), 2);
        Check.due("its answers stay", z.answers(), 1);
        Check.due("kept ones ahead", Calls.with("#a1").left(A, 1), 0);
        Check.due("kept ones of others", Calls.with("#a1").left(A, 2), 1);
    }

    /** "LEAST ATOM of a VARIABLE: the least with LEFT above 0; -9." */
    private static void leastAtom() {
        Check.due("least 0", Calls.with("*").least(A), 0);
        Check.due("least 9", Calls.with("=a9").least(A), 9);
        Check.due("none", Calls.with("=an").least(A), -9);
        Check.due("none of none", Calls.with("!").least(A), -9);
        GoalsInAQueue x = Calls.with("|=f7|=f5=f8");
        Check.due("least of three", x.least(F), 5);
        Check.due("least of another", x.least(A), 0);
        x.steps(9);
        Check.due("anew", x.least(F), 5);
        Check.due("the search stays", x.count(0), 8);
    }

    /** "TURNED: THE GOAL, which must be "&" or "|""; "ANSWERS (what 0), the STEP (1; -9). -2; -3 .." */
    private static void turnedGoals() {
        for (String goal : new String[] {"=ab", "#ab", "Aabc", "Mab", "*", "!"}) {
            GoalsInAQueue x = Calls.with(goal);
            Check.due("turned 0 of " + goal, x.turned(0), -3);
            Check.due("turned 1 of " + goal, x.turned(1), -3);
            Check.due("turned 2 of " + goal, x.turned(2), -2);
            Check.due("turned -1 of " + goal, x.turned(-1), -2);
            Calls.refusals(x, 0, 2, 2);
        }
        GoalsInAQueue or = Calls.with("|!=a1");
        Check.due("or", or.turned(0), 1);
        Check.due("first of or", or.turned(1), 4);
        Check.due("turned 2", or.turned(2), -2);
        Check.due("turned greatest", or.turned(Integer.MAX_VALUE), -2);
        Calls.refusals(or, 0, 2);
        GoalsInAQueue and = Calls.with("&!|**");
        Check.due("and: none", and.turned(0), 0);
        Check.due("and: no first", and.turned(1), -9);
        Check.due("the goals inside are not turned", Calls.with("&*|*&**").turned(1), 7);
        GoalsInAQueue z = Calls.with("|=a1&*=a2");
        z.steps(2);
        Check.due("first of the turned", z.turned(1), 5);
        Check.due("the search stays", z.count(0), 2);
        Check.due("the goal stays", z.need(1), 4);
        Check.due("turned again", z.turned(1), 5);
        Check.due("turned once more at once", z.turned(1), 5);
        Check.due("its answers", z.turned(0), 2);
        z.left(A, 1);
        Check.due("turned behind left", z.turned(1), 5);
        z.lots(5, 5, 0);
        Check.due("turned behind lots", z.turned(1), 5);
    }

    /** "how many ANSWERS behind 120 STEPS; the STEP of the first one; -9." */
    private static void turnedBehind120() {
        // Turned it is "&*" ahead of the 16, so two steps later: 111 .. 126.
        GoalsInAQueue x = Calls.with("&" + SIXTEEN + "*");
        Check.due("those of 111 .. 120", x.turned(0), 10);
        Check.due("the first", x.turned(1), 111);
        GoalsInAQueue y = Calls.with("&&A" + Calls.ones(7) + "de" + SIXTEEN + "*");
        Check.due("the one of 120", y.turned(0), 1);
        Check.due("its step", y.turned(1), 120);
        GoalsInAQueue z = Calls.with("&&A" + Calls.ones(8) + "de" + SIXTEEN + "*");
        Check.due("none by 121", z.turned(0), 0);
        Check.due("no step", z.turned(1), -9);
        Check.due("30 at most", Calls.with("|Aabc|AabcAabc").turned(0), 30);
    }

    /** "SHARE: ANSWERS by STEPS so far: a fraction in least terms (0 by 1, if there are none)." */
    private static void shareInLeastTerms() {
        GoalsInAQueue x = Calls.with("Aabc");
        int[] above = {0, 0, 1, 1, 1, 2, 1, 3, 1};
        int[] below = {1, 1, 2, 3, 2, 5, 2, 7, 2};
        for (int step = 0; step < above.length; step++) {
            Check.due("above at step " + step, x.share(0), above[step]);
            Check.due("below at step " + step, x.share(1), below[step]);
            x.steps(1);
        }
        GoalsInAQueue y = Calls.after("&|**&|**&|**&|**|**", 138);
        Check.due("30 by 138: above", y.share(0), 5);
        Check.due("30 by 138: below", y.share(1), 23);
        GoalsInAQueue none = Calls.after("!", 1);
        Check.due("none: above", none.share(0), 0);
        Check.due("none: below", none.share(1), 1);
        Calls.refusals(none);
        for (int part : new int[] {2, -1, Integer.MAX_VALUE, Integer.MIN_VALUE}) {
            Check.due("share " + part, none.share(part), 4000000000000000002L);
        }
        Calls.refusals(none, 0, 4);
    }

    /** "ATOMS which .. bring a first ANSWER in whose TEXT of a the first letters are these"; "it stays; bits" */
    private static void whichByTheRow() {
        GoalsInAQueue x = Calls.with("|=a0|=a9&=a(12)=b3");
        Check.due("a row of none", x.which(A), 1 + 512);
        Check.due("by another", x.which(C), 1023);
        Calls.tellRow(x, "0");
        Check.due("by a", x.which(A), 1);
        Check.due("the row stays", x.count(6), 1);
        Check.due("the first answer alone, of all", x.which(C), 1023);
        Check.due("the first answer alone, of b", x.which(B), 1023);
        x.clear();
        Calls.tellRow(x, "9");
        Check.due("bit 9", x.which(A), 512);
        Check.due("of no first answer", x.which(B), 0);
        Calls.tellRow(x, "9");
        Check.due("more letters than the text has", x.which(A), 0);
        Check.due("the row stays", x.count(6), 2);
        Check.due("so does the search", x.count(0), 0);
        GoalsInAQueue p = Calls.with("=a(1(2b))");
        for (String row : new String[] {"", "(", "(1.(2.", "(1.(2._0))"}) {
            p.clear();
            Calls.tellRow(p, row);
            Check.due("which of " + row, p.which(C), 1023);
        }
        Check.due("b is told in it", p.which(B), 0);
        p.clear();
        Calls.tellRow(p, "(1.(2.4");
        Check.due("b is 4", p.which(B), 16);
        p.clear();
        Calls.tellRow(p, "(1.(2._0)))");
        Check.due("one too many", p.which(C), 0);
        GoalsInAQueue full = Calls.with("=a(1(2(3(4(5(6(78)))))))");
        String told = "(1.(2.(3.(4.(5.(6.(7.8)))))))";
        Calls.tellRow(full, told);
        Check.due("29 letters", full.which(F), 1023);
        GoalsInAQueue longer = Calls.with("=a(1(2(3(4(5(6(7(8(9n)))))))))");
        Calls.tellRow(longer, "(1.(2.(3.(4.(5.(6.(7.(8.(9.n)))))))))".substring(0, 32));
        Check.due("32 letters", longer.which(F), 1023);
        longer.clear();
        Calls.tellRow(longer, "(1.(2.(3.(4.(5.(6.(7.(8.(9.n)))))))))".substring(0, 31) + "x");
        Check.due("the last of 32 is another", longer.which(F), 0);
    }

    /** "A number more of the ROW (0 .. 127): how many. -4; -6 (127; ..)." */
    private static void rowFrom0To127() {
        GoalsInAQueue x = new GoalsInAQueue();
        Check.due("row 0", x.row(0), 1);
        Check.due("row 127", x.row(127), 2);
        Check.due("row 128", x.row(128), -6);
        Check.due("row greatest", x.row(Integer.MAX_VALUE), -6);
        Check.due("row -1", x.row(-1), -4);
        Check.due("row least", x.row(Integer.MIN_VALUE), -4);
        Check.due("in the row", x.count(6), 2);
        Calls.refusals(x, 0, 0, 0, 2, 0, 2);
    }

    /** "row .. -6 (.. 32, too)" */
    private static void rowAtMost32() {
        GoalsInAQueue x = new GoalsInAQueue();
        for (int i = 1; i <= 32; i++) {
            Check.due("row " + i, x.row(i), i);
        }
        Check.due("row 33", x.row(1), -6);
        Check.due("row 33 that is 128", x.row(128), -6);
        Check.due("row 33 that is -1", x.row(-1), -4);
        Check.due("in the row", x.count(6), 32);
        Calls.refusals(x, 0, 0, 0, 1, 0, 2);
        Check.due("clear", x.clear(), 32);
        Check.due("row 1 anew", x.row(1), 1);
    }

    private static void dueJudged(GoalsInAQueue x, int i, String row, int due) {
        Calls.tellRow(x, row);
        Check.due("judge " + i + " of " + row, x.judge(i), due);
        Check.due("the row has none then", x.count(6), 0);
    }

    /** "the first that is not so (one too many, too); if it tells too few, how many it tells; -9." */
    private static void judged() {
        GoalsInAQueue x = Calls.after("|=a(1b)=a7", 9);
        String[] rows = {"(1._0)", "(1._1)", ")1._0)", "(1._0(", "", "(", "(1._0", "(1._0))", "(1._0)))))", "7"};
        int[] first = {-9, 4, 0, 5, 0, 1, 5, 6, 6, 0};
        int[] second = {0, 0, 0, 0, 0, 0, 0, 0, 0, -9};
        for (int k = 0; k < rows.length; k++) {
            dueJudged(x, 0, rows[k], first[k]);
            dueJudged(x, 1, rows[k], second[k]);
        }
        dueJudged(x, 1, "77", 1);
        GoalsInAQueue just = Calls.after("=a(1(2(3(4(b(c(d5)))))))", 9);
        Check.due("32 letters", just.length(0, A), 32);
        dueJudged(just, 0, text(just, 0), -9);
        dueJudged(just, 0, text(just, 0).substring(0, 31) + "(", 31);
        dueJudged(just, 0, text(just, 0).substring(0, 31), 31);
        GoalsInAQueue longer = Calls.after("=a(1(2(3(b(c(d(ef)))))))", 9);
        Check.due("34 letters", longer.length(0, A), 34);
        dueJudged(longer, 0, text(longer, 0).substring(0, 32), 32);
        GoalsInAQueue less = Calls.after("=a(1(2(3(4(5(b(c6)))))))", 9);
        Check.due("31 letters", less.length(0, A), 31);
        dueJudged(less, 0, text(less, 0) + ")", 31);
    }

    /** "JUDGED; -9 (the ROW has none then). -1 (the ROW stays)." */
    private static void judgedRowIsEmptied() {
        GoalsInAQueue x = Calls.after("=a7", 9);
        Calls.tellRow(x, "7");
        Check.due("no such answer", x.judge(1), -1);
        Check.due("no such answer", x.judge(-1), -1);
        Check.due("the row stays", x.count(6), 1);
        Check.due("judge", x.judge(0), -9);
        Check.due("the row has none", x.count(6), 0);
        Check.due("judge of none", x.judge(0), 0);
        Calls.tellRow(x, "8");
        Check.due("judge of another", x.judge(0), 0);
        Check.due("the row has none", x.count(6), 0);
        Calls.refusals(x, 2);
    }

    /** "The ROW has none then: how many it had." */
    private static void cleared() {
        GoalsInAQueue x = new GoalsInAQueue();
        Check.due("clear of none", x.clear(), 0);
        x.row(5);
        Check.due("clear of one", x.clear(), 1);
        Check.due("clear of none again", x.clear(), 0);
        Check.due("none in the row", x.count(6), 0);
        Calls.refusals(x);
    }

    /** "n GOALS (1 .. 20)"; "-4; -6 20; -2" */
    private static void lotsFrom1To20() {
        GoalsInAQueue x = new GoalsInAQueue();
        Check.due("lots 0", x.lots(0, 5, 0), -4);
        Check.due("lots 0 of what 2", x.lots(0, 5, 2), -4);
        Check.due("lots least", x.lots(Integer.MIN_VALUE, 5, 1), -4);
        Check.due("lots 21", x.lots(21, 5, 0), -6);
        Check.due("lots 21 of what -1", x.lots(21, 5, -1), -6);
        Check.due("lots greatest", x.lots(Integer.MAX_VALUE, 5, 1), -6);
        Check.due("lots 20 of what 2", x.lots(20, 5, 2), -2);
        Check.due("lots 1 of what -1", x.lots(1, 5, -1), -2);
        Calls.refusals(x, 0, 2, 0, 3, 0, 3);
        Check.holds("lots 1", x.lots(1, 5, 0) >= 0);
        Check.holds("lots 20", x.lots(20, 5, 1) >= 0);
        Calls.refusals(x, 0, 2, 0, 3, 0, 3);
        Check.due("the goal stays", x.count(3), 0);
        Check.due("the search stays", x.steps(2), 1);
        Calls.dueText(x, 0, A, "_0");
    }

    private static long z;

    /** "z becomes z times 1664525 and 1013904223 (an int); (z without its sign's bit by 256, cut) modulo m" */
    private static int draw(int m) {
        z = (z * 1664525L + 1013904223L) % (1L << 32);
        return (int) (z % (1L << 31) / 256 % m);
    }

    private static String drawOf(int kind) {
        return kind == 0 ? "" + (char) ('a' + draw(6)) : "" + draw(3);
    }

    private static String drawTerm() {
        int kind = draw(3);
        if (kind < 2) {
            return drawOf(kind);
        }
        String first = drawOf(draw(2));
        return "(" + first + drawOf(draw(2)) + ")";
    }

    private static String drawEqual() {
        String one = drawTerm();
        return "=" + one + drawTerm();
    }

    /** Each lot told as a GOAL: an ANSWER of it holds all four, and a TEXT without "_" first is no VARIABLE. */
    private static void lotsByDraws() {
        int all = 0;
        int[] seeds = {0, 1, -1, Integer.MAX_VALUE, Integer.MIN_VALUE, -715827883, 123456789};
        for (int i = 0; i < 40; i++) {
            int seed = i < seeds.length ? seeds[i] : i * 87654321;
            GoalsInAQueue x = new GoalsInAQueue();
            z = seed < 0 ? seed + (1L << 32) : seed;
            int holds = 0;
            int terms = 0;
            for (int n = 1; n <= 20; n++) {
                GoalsInAQueue lot = Calls.after("&&" + drawEqual() + drawEqual() + "&" + drawEqual() + drawEqual(), 20);
                holds += lot.answers();
                for (int v = 0; v < 6 && lot.answers() == 1; v++) {
                    terms += lot.text(0, v, 0) == '_' ? 0 : 1;
                }
                Check.due("lots " + n + " " + seed + " hold", x.lots(n, seed, 0), holds);
                Check.due("lots " + n + " " + seed + " terms", x.lots(n, seed, 1), terms);
            }
            Calls.refusals(x);
            all += holds;
        }
        Check.holds("some of 800 hold, some do not: " + all, all > 40 && all < 400);
    }

    /** "THE IMAGE is taken: STEP."; "ON from it: STEP. -3 there is none."; "ON from it all is as then" */
    private static void imageAndOn() {
        GoalsInAQueue x = new GoalsInAQueue();
        Check.due("on of none", x.on(), -3);
        Check.due("image at step 0", x.image(), 0);
        Calls.retell(x, "&#ab|=a1=c(12)");
        Check.due("on to step 0", x.on(), 0);
        Check.due("the goal as then", x.count(2), 1);
        Check.due("its answer", x.steps(9), 1);
        Check.due("image of the done", x.image(), 2);
        Calls.retell(x, "&#ab|=a1=c(12)");
        Calls.go(x, 6);
        Check.due("image in the midst", x.image(), 6);
        x.steps(1);
        Calls.retell(x, "|AabcAabc");
        Calls.go(x, 90);
        Check.due("on", x.on(), 6);
        Check.due("answers as then", x.answers(), 1);
        Check.due("queue as then", x.queue(0), 1);
        Check.due("most as then", x.queue(2), 2);
        Check.due("kept as then", x.queue(4), 1);
        Check.due("lost as then", x.queue(1), 0);
        Check.due("terms as then", x.count(3), 8);
        Check.due("left by the goal as then", x.left(C, 1), 1);
        Check.due("one more", x.steps(9), 2);
        Calls.dueText(x, 1, C, "(1.2)");
        Check.due("on twice", x.on(), 6);
        Check.due("answers as then", x.answers(), 1);
        Check.due("one more again", x.steps(9), 2);
        GoalsInAQueue lists = Calls.after("Aabc", 15);
        Check.due("image of lists", lists.image(), 15);
        Calls.go(lists, 60);
        Check.due("19 answers and lost", lists.answers() + lists.queue(1), 20);
        Calls.retell(lists, "Mab");
        Calls.go(lists, 60);
        Check.due("on to the lists", lists.on(), 15);
        Check.due("none lost then", lists.queue(1), 0);
        Calls.go(lists, 60);
        Check.due("19 answers and lost again", lists.answers() + lists.queue(1), 20);
        Calls.dueText(lists, 2, C, "(_0.(_1._2))");
        Calls.refusals(lists);
        imageHoldsAnswers();
    }

    /** ANSWERS, with their STEPS and TEXTS, are as then, whatever came between. */
    private static void imageHoldsAnswers() {
        GoalsInAQueue x = Calls.after("|=a1|#ab=c(12)", 8);
        Check.due("image of three answers", x.image(), 8);
        Calls.retell(x, "&&***");
        Calls.go(x, 20);
        Check.due("an answer of another goal", x.when(0), 6);
        x.need(1);
        x.left(A, 3);
        Check.due("on", x.on(), 8);
        int[] when = {4, 7, 8};
        int[] kept = {0, 1, 0};
        String[] a = {"1", "_0", "_0"};
        String[] c = {"_0", "_0", "(1.2)"};
        for (int i = 0; i < 3; i++) {
            Check.due("when as then " + i, x.when(i), when[i]);
            Check.due("kept as then " + i, x.kept(i), kept[i]);
            Calls.dueText(x, i, A, a[i]);
            Calls.dueText(x, i, C, c[i]);
        }
        Check.due("earliest as then", x.earliest(2, A), 1);
        Check.due("share as then", x.share(1), 8);
        Calls.refusals(x);
    }

    /** "0 STEP, 1 ANSWERS, .. 11 .. 16 REFUSALS -1 .. -6. -9 for another what." */
    private static void countOfWhat() {
        GoalsInAQueue x = Calls.after("|Mab=c(12)", 5);
        x.row(1);
        x.row(2);
        x.letter(7);
        int[] due = {5, 1, 3, 6, 3, 0, 2, 1, -9, -9, -9, 0, 0, 0, 0, 0, 0, -9, -9};
        for (int what = 0; what < due.length; what++) {
            Check.due("count " + what, x.count(what), due[what]);
        }
        for (int what : new int[] {-1, -11, 100, Integer.MAX_VALUE, Integer.MIN_VALUE}) {
            Check.due("count " + what, x.count(what), -9);
        }
        Calls.refusals(x);
        Check.due("40 terms at most", Calls.with("=" + Calls.ones(19) + "a").count(3), 40);
    }
}
