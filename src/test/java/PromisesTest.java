/** For each promise of the document: ordinary inputs, the edges that it names, and wrong inputs. */
public final class PromisesTest {
    private static final int A = 0;
    private static final int B = 1;
    private static final int C = 2;
    private static final int F = 5;

    private PromisesTest() {
    }

    public static void main(String[] args) {
        newObject();
        letter();
        goal();
        goalFaults();
        steps();
        answersAndBranches();
        lengthAndText();
        textEdges();
        when();
        kept();
        queue();
        lost();
        done();
        relations();
        differentAndEarliest();
        meet();
        need();
        left();
        least();
        turned();
        share();
        which();
        row();
        judge();
        clear();
        lots();
        imageAndOn();
        count();
        Check.end("PromisesTest");
    }

    private static void newObject() {
        GoalsInAQueue x = new GoalsInAQueue();
        int[] counts = {0, 0, 1, 0, 1, 0, 0, 0};
        for (int what = 0; what < 8; what++) {
            Check.due("new: count " + what, x.count(what), counts[what]);
        }
        int[] queue = {1, 0, 1, 1, 0, 6};
        for (int what = 0; what < 6; what++) {
            Check.due("new: queue " + what, x.queue(what), queue[what]);
        }
        Calls.refusals(x);
        Check.due("new: done", x.done(), 0);
        Check.due("new: first step", x.steps(1), 0);
        Check.due("new: second step", x.steps(1), 1);
        Check.due("new: when", x.when(0), 2);
        Check.due("new: done then", x.done(), 1);
        Calls.dueText(x, 0, F, "_0");
    }

    private static void letter() {
        GoalsInAQueue x = new GoalsInAQueue();
        Check.due("letter 0", x.letter(0), 1);
        Check.due("letter 255", x.letter(255), 2);
        Check.due("letter -1", x.letter(-1), -4);
        Check.due("letter least int", x.letter(Integer.MIN_VALUE), -4);
        Check.due("letter 256", x.letter(256), -6);
        for (int i = 3; i <= 96; i++) {
            Check.due("letter " + i, x.letter('*'), i);
        }
        Check.due("letter 97", x.letter('*'), -6);
        Check.due("letter -1, full", x.letter(-1), -4);
        Check.due("letters", x.count(7), 96);
        Calls.refusals(x, 0, 0, 0, 3, 0, 2);
        Check.due("goal", x.goal(), -1000);
        Check.due("letters then", x.count(7), 0);
        Check.due("letter anew", x.letter('*'), 1);
    }

    private static void goal() {
        GoalsInAQueue x = new GoalsInAQueue();
        String[] goals = {"*", "!", "=ab", "#a(1n)", "Mab", "Aabc", "&*!", "|=abMcd", "&&***"};
        int[] sizes = {1, 1, 1, 1, 1, 1, 3, 3, 5};
        int[] terms = {0, 0, 2, 4, 2, 3, 0, 4, 0};
        for (int i = 0; i < goals.length; i++) {
            Calls.tell(x, goals[i]);
            Check.due("goals of " + goals[i], x.goal(), sizes[i]);
            Check.due("counted goals of " + goals[i], x.count(2), sizes[i]);
            Check.due("counted terms of " + goals[i], x.count(3), terms[i]);
        }
        Calls.tell(x, "*");
        x.goal();
        x.steps(2);
        Calls.tell(x, "=ab");
        Check.due("anew: goal", x.goal(), 1);
        Check.due("anew: step", x.count(0), 0);
        Check.due("anew: answers", x.answers(), 0);
        Check.due("anew: queue", x.queue(0), 1);
        x.steps(2);
        Calls.tell(x, "=a");
        Check.due("fault", x.goal(), -1002);
        Check.due("fault: letters", x.count(7), 0);
        Check.due("fault: the goal stays", x.count(2), 1);
        Check.due("fault: its terms stay", x.count(3), 2);
        Check.due("fault: the search stays", x.count(0), 2);
        Check.due("fault: answers stay", x.answers(), 1);
        Calls.refusals(x);
    }

    private static void goalFaults() {
        Calls.fault("", -1000);
        Calls.fault("a", -1000);
        Calls.fault("&", -1001);
        Calls.fault("&*", -1002);
        Calls.fault("=ab*", -1003);
        Calls.fault("**", -1001);
        Calls.fault("=g1", -1001);
        Calls.fault("==ab", -1001);
        Calls.fault("=A", -1001);
        Calls.fault("=ab)", -1003);
        Calls.fault("=(a)b", -1003);
        Calls.fault("=()b", -1002);
        Calls.fault("=(abc)d", -1004);
        Calls.fault("=(ab", -1004);
        Calls.fault("=(ab)", -1005);
        Calls.fault("Aab", -1003);
        Calls.fault("Ma*", -1002);
        Calls.fault("&=ab1", -1004);
        Calls.fault("N", -1000);
        Calls.fault("m", -1000);
        Calls.fault("&".repeat(96), -1096);
        Calls.fault("&".repeat(11) + "*".repeat(12), 23);
        Calls.fault("&".repeat(12) + "*".repeat(13), -2024);
        Calls.fault("|&" + "&".repeat(10) + "*".repeat(12) + "!", -2024);
        Calls.fault("&".repeat(12) + "*".repeat(12), -1024);
        Calls.fault("&".repeat(12) + "*".repeat(14), -1025);
        Calls.fault("=" + "(a".repeat(19) + "a" + ")".repeat(19) + "b", 1);
        Calls.fault("=" + "(a".repeat(19) + "a" + ")".repeat(19) + "(bc)", -2060);
        Calls.fault("=" + "(a".repeat(20) + "a" + ")".repeat(20) + "b", -2041);
        Calls.fault("=" + "(a".repeat(20) + "a" + ")".repeat(20) + "*", -1062);
        Calls.fault("&".repeat(12) + "=ab".repeat(13), -2048);
        Calls.fault("&".repeat(12) + "A(ab)(ab)c" + "Aabc".repeat(12), -2066);
        Calls.fault("&".repeat(12) + "A(ab)(ab)(ab)" + "Aabc".repeat(12), -2067);
        for (int c = 0; c < 256; c++) {
            Calls.fault("" + (char) c, "*!".indexOf(c) >= 0 ? 1 : "=#&|AM".indexOf(c) >= 0 ? -1001 : -1000);
            Calls.fault("=a" + (char) c, "abcdef0123456789n".indexOf(c) >= 0 ? 1 : c == '(' ? -1003 : -1002);
            Calls.fault("=a(b1" + (char) c, c == ')' ? 1 : -1005);
        }
        GoalsInAQueue x = Calls.with("=" + "(a".repeat(19) + "a" + ")".repeat(19) + "b");
        Check.due("40 terms", x.count(3), 40);
        Check.due("an answer of 40 terms", x.steps(2), 1);
        Check.due("its length", x.length(0, B), 19 * 5 + 2);
        GoalsInAQueue y = Calls.with("&|***");
        y.letter(9);
        Check.due("a letter that never fits", y.goal(), -1000);
        Check.due("the goal is as it was", y.count(2), 5);
    }

    private static void steps() {
        GoalsInAQueue x = Calls.with("&Aabc&Adef!");
        Check.due("steps 0", x.steps(0), -4);
        Check.due("steps -1", x.steps(-1), -4);
        Check.due("steps 101", x.steps(101), -6);
        Check.due("steps most", x.steps(Integer.MAX_VALUE), -6);
        Check.due("nothing was done", x.count(0), 0);
        Check.due("steps 100", x.steps(100), 0);
        Check.due("steps 100", x.steps(100), 0);
        Check.due("steps 1", x.steps(1), 0);
        Check.due("steps above 300", x.steps(100), -6);
        Check.due("step", x.count(0), 201);
        Check.due("steps up to 300", x.steps(99), 0);
        Check.due("step 300", x.count(0), 300);
        Check.due("not done", x.done(), 0);
        Check.due("one more", x.steps(1), -6);
        Calls.refusals(x, 0, 0, 0, 2, 0, 4);

        GoalsInAQueue y = Calls.with("=a1");
        Check.due("fewer, if done", y.steps(50), 1);
        Check.due("step of the done", y.count(0), 2);
        Check.due("steps of the done", y.steps(100), 1);
        Check.due("step still", y.count(0), 2);

        GoalsInAQueue z = Calls.after("&Aabc|=d1|=d2=d3", 100);
        Check.due("30 answers", z.answers(), 30);
        int step = z.count(0);
        Check.due("done with a queue", z.done(), 1);
        Check.holds("states still wait", z.queue(0) > 0);
        z.steps(1);
        Check.due("no step more", z.count(0), step);
    }

    private static void answersAndBranches() {
        GoalsInAQueue x = Calls.with("||=a1=a2|=a3=a4");
        Check.due("no answers", x.answers(), 0);
        Check.due("both behind", x.steps(1), 0);
        Check.due("two wait", x.queue(0), 2);
        Check.due("all", x.steps(20), 4);
        Check.due("answers", x.answers(), 4);
        for (int i = 0; i < 4; i++) {
            Calls.dueText(x, i, A, "" + (i + 1));
            Check.due("when", x.when(i), 8 + i);
        }
        Check.due("step", x.count(0), 11);

        GoalsInAQueue y = Calls.after("||!*&=a1=a2", 50);
        Check.due("failing ones are gone", y.answers(), 1);
        Calls.dueText(y, 0, A, "_0");

        String[] fails = {"=12", "=1n", "=1(ab)", "=n(ab)", "=a(ab)", "=a(1(2a))", "!", "&=ab=a(1b)",
            "&=a1&=ba=b2", "=(aa)(12)", "#aa", "#11", "#nn", "#(a1)(a1)", "&=ab#(ac)(bc)"};
        for (String goal : fails) {
            Check.due("no answer: " + goal, Calls.after(goal, 30).answers(), 0);
        }
        String[] holds = {"=11", "=nn", "=aa", "=(ab)(ba)", "&=ab=ba", "=(aa)(bc)", "#ab", "#12", "#1n", "#a(ab)",
            "&#ab=a1", "&=a(bc)=a((12)3)"};
        for (String goal : holds) {
            Check.due("one answer: " + goal, Calls.after(goal, 30).answers(), 1);
        }
    }

    private static void lengthAndText() {
        GoalsInAQueue x = Calls.after("&=a(b(1(cb)))=d(n9)", 10);
        Calls.dueText(x, 0, A, "(_0.(1.(_1._0)))");
        Calls.dueText(x, 0, B, "_0");
        Calls.dueText(x, 0, C, "_0");
        Calls.dueText(x, 0, 3, "(n.9)");
        Check.due("length -1 0", x.length(-1, 0), -1);
        Check.due("length 1 0", x.length(1, 0), -1);
        Check.due("length 0 6", x.length(0, 6), -1);
        Check.due("length 0 -1", x.length(0, -1), -1);
        Check.due("text 1 0 -1", x.text(1, 0, -1), -1);
        Check.due("text 0 6 -1", x.text(0, 6, -1), -1);
        Check.due("text 0 0 -1", x.text(0, 0, -1), -4);
        Check.due("text 0 0 most", x.text(0, 0, Integer.MAX_VALUE), -9);
        Calls.refusals(x, 6, 0, 0, 1);
        Calls.dueText(Calls.after("&=ab&=bc=cd", 20), 0, A, "_0");
        Calls.dueText(Calls.after("&=ab&=bc=c(de)", 20), 0, A, "(_0._1)");
    }

    private static void textEdges() {
        GoalsInAQueue x = Calls.after("&=a(bb)&=b(cc)&=c(dd)&=d(ee)=e(ff)", 30);
        Check.due("157 letters", x.length(0, A), 157);
        GoalsInAQueue y = Calls.after("&=a(bb)&=b(cc)&=c(dd)&=d(ee)=e((ff)(ff))", 30);
        Check.due("200 letters at most", y.length(0, A), 200);
        Check.due("the last letter", y.text(0, A, 199), '(');
        Check.due("none behind it", y.text(0, A, 200), -9);
        Calls.dueText(y, 0, 4, "((_0._0).(_0._0))");

        GoalsInAQueue z = Calls.after("Aabc", 26);
        StringBuilder due = new StringBuilder();
        for (int i = 0; i < 12; i++) {
            due.append("(_").append(i % 10).append('.');
        }
        Calls.dueText(z, 12, C, due + "_2" + ")".repeat(12));
        Calls.dueText(z, 12, A, due + "n" + ")".repeat(12));
        Calls.dueText(z, 12, B, "_0");
    }

    private static void when() {
        GoalsInAQueue x = Calls.after("Aabc", 9);
        Check.due("when 0", x.when(0), 2);
        Check.due("when 1", x.when(1), 4);
        Check.due("when 3", x.when(3), 8);
        Check.due("when 4", x.when(4), -1);
        Check.due("when -1", x.when(-1), -1);
        Calls.refusals(x, 2);
        Check.due("of three goals", Calls.after("&*&*=a1", 20).when(0), 6);
    }

    private static void kept() {
        Check.due("none kept", Calls.after("=ab", 9).kept(0), 0);
        Check.due("one kept", Calls.after("#ab", 9).kept(0), 1);
        Check.due("the same two twice", Calls.after("&#ab#ab", 9).kept(0), 2);
        Check.due("never the same: kept no more", Calls.after("&#ab&=a1=b2", 9).kept(0), 0);
        Check.due("not yet", Calls.after("&#ab=a1", 9).kept(0), 1);
        Check.due("at once", Calls.after("#12", 9).kept(0), 0);
        Check.due("at once, by bindings", Calls.after("&=a1#a2", 9).kept(0), 0);
        Check.due("a variable in it", Calls.after("#a(ab)", 9).kept(0), 0);
        Check.due("of pairs", Calls.after("&#(ab)(12)=a1", 9).kept(0), 1);
        Check.due("of pairs no more", Calls.after("&#(ab)(12)=a3", 9).kept(0), 0);
        Check.due("same by later bindings", Calls.after("&#ab&=ac=bc", 9).answers(), 0);
        Check.due("kept looked at by relations", Calls.after("&#a(1n)Ma(2(1n))", 40).answers(), 2);
        Check.due("kept looked at by a list", Calls.after("&#anAab(1n)", 40).answers(), 1);
        GoalsInAQueue x = Calls.after("&#cnAab(1n)", 40);
        Check.due("kept stays", x.kept(0) + x.kept(1), 2);
        Check.due("kept -1", x.kept(-1), -1);
        Check.due("kept 2", x.kept(2), -1);
        Calls.refusals(x, 2);
        Check.due("many kept", Calls.after("&" .repeat(11) + "#a1#b1#c1#d1#e1#f1#a2#b2#c2#d2#e2#f2", 40).kept(0), 12);
    }

    private static void queue() {
        GoalsInAQueue x = Calls.with("&#ab&|**Mab");
        int[][] due = {
            {1, 0, 1, 1, 0, 6}, // step 0
            {1, 0, 1, 2, 0, 6}, // "&": "#" and "&"
            {1, 0, 1, 1, 1, 6}, // "#"
            {1, 0, 1, 2, 1, 6}, // "&": "|" and "M"
            {2, 0, 2, 2, 1, 6}, // "|": "*" and "M", twice
            {2, 0, 2, 2, 1, 6}, // "*": the other one is first
            {2, 0, 2, 1, 1, 6}, // "*": "M" is first
            {3, 0, 3, 1, 1, 6}, // "M" puts two behind
            {4, 0, 4, 0, 0, 7}, // "M" again: b has a in it now, so nothing is KEPT
        };
        for (int step = 0; step < due.length; step++) {
            for (int what = 0; what < 6; what++) {
                Check.due("step " + step + " queue " + what, x.queue(what), due[step][what]);
            }
            x.steps(1);
        }
        Check.due("queue 6", x.queue(6), -2);
        Check.due("queue -1", x.queue(-1), -2);
        Calls.refusals(x, 0, 2);

        GoalsInAQueue y = Calls.after("Mab", 1);
        Check.due("M: first has nothing to do", y.queue(3), 0);
        Check.due("M: first has one more", y.queue(5), 7);
        y.steps(1);
        Check.due("M: second has M to do", y.queue(3), 1);
        Check.due("M: second has two more", y.queue(5), 8);
        GoalsInAQueue z = Calls.after("&Aabc*", 2);
        Check.due("A: first has what was behind it", z.queue(3), 1);
        Check.due("A: first has none more", z.queue(5), 6);
        z.steps(1);
        Check.due("A: second has A and what was behind it", z.queue(3), 2);
        Check.due("A: second has three more", z.queue(5), 9);

        GoalsInAQueue e = Calls.after("!", 1);
        int[] empty = {0, 0, 1, -9, -9, -9};
        for (int what = 0; what < 6; what++) {
            Check.due("empty: queue " + what, e.queue(what), empty[what]);
        }
        Calls.refusals(e);
    }

    private static void lost() {
        GoalsInAQueue x = Calls.after("Aabc", 100);
        Check.due("63 variables are lost", x.queue(1), 1);
        Check.due("19 answers before", x.answers(), 19);
        Check.due("lost counted", x.count(5), 1);
        GoalsInAQueue m = Calls.after("Mab", 100);
        Check.due("62 variables and 61 ones are lost", m.queue(1), 2);
        Check.due("27 answers before", m.answers(), 27);
        GoalsInAQueue f = Calls.after("&Aabc!", 100);
        Check.due("lost ahead of what would fail later", f.queue(1), 1);
        Calls.tell(f, "*");
        f.goal();
        Check.due("nothing lost anew", f.queue(1), 0);
        GoalsInAQueue gone = Calls.after("Aab" + "(1".repeat(18) + "n" + ")".repeat(18), 100);
        Check.due("19 answers of a list", gone.answers(), 19);
        Check.due("what fails is gone, not lost", gone.queue(1), 0);

        GoalsInAQueue chains = Calls.after("|".repeat(9) + "Maa".repeat(10), 289);
        Check.due("ten lists without an end are lost", chains.queue(1), 10);
        Check.due("each behind 28 steps", chains.count(0), 289);
        Check.due("none is left", chains.queue(0), 0);
        Check.due("none is an answer", chains.answers(), 0);

        GoalsInAQueue w = Calls.with("&|**&|**&|**&|**&|**|**");
        w.steps(100);
        w.steps(24);
        Check.due("32 have done five", w.queue(0), 32);
        w.steps(8);
        Check.due("40 are not lost", w.queue(0), 40);
        Check.due("none is lost yet", w.queue(1), 0);
        w.steps(1);
        Check.due("the second one is lost behind 40 others", w.queue(1), 1);
        w.steps(67);
        Check.due("40 at most", w.queue(2), 40);
        Check.due("lost behind 40 others", w.queue(1), 24);
        w.steps(100);
        Check.due("30 of 40 answers", w.answers(), 30);
        Check.due("10 wait", w.queue(0), 10);
        Check.due("at step", w.count(0), 124 + 32 + 40 + 30);
    }

    private static void done() {
        GoalsInAQueue x = Calls.with("|!=a1");
        Check.due("not done", x.done(), 0);
        x.steps(2);
        Check.due("one waits", x.done(), 0);
        x.steps(2);
        Check.due("done", x.done(), 1);
        Check.due("30 answers", Calls.after("|AabcAdef", 100).done(), 1);
        Check.due("300 steps are not done", Calls.after("&Aabc&Adef!", 300).done(), 0);
    }

    private static void relations() {
        GoalsInAQueue x = Calls.after("Aab(1(2n))", 60);
        Check.due("splits of two", x.answers(), 3);
        Calls.dueText(x, 0, A, "n");
        Calls.dueText(x, 0, B, "(1.(2.n))");
        Calls.dueText(x, 1, A, "(1.n)");
        Calls.dueText(x, 1, B, "(2.n)");
        Calls.dueText(x, 2, A, "(1.(2.n))");
        Calls.dueText(x, 2, B, "n");
        GoalsInAQueue y = Calls.after("A(1(2n))(3n)a", 60);
        Check.due("one behind the other", y.answers(), 1);
        Calls.dueText(y, 0, A, "(1.(2.(3.n)))");
        GoalsInAQueue z = Calls.after("Ma(1(2(3n)))", 60);
        Check.due("members", z.answers(), 3);
        for (int i = 0; i < 3; i++) {
            Calls.dueText(z, i, A, "" + (i + 1));
        }
        GoalsInAQueue m = Calls.after("&M1aM2a", 10);
        Calls.dueText(m, 0, A, "(1.(2._0))");
        GoalsInAQueue t = Calls.after("M(bb)a", 6);
        Calls.dueText(t, 0, A, "((_0._0)._1)");
        Calls.dueText(t, 1, A, "(_0.((_1._1)._2))");
        Calls.dueText(t, 1, B, "_0");
        Check.due("no list", Calls.after("A1ab", 60).answers(), 0);
        Check.due("no member of empty", Calls.after("Man", 60).answers(), 0);
        GoalsInAQueue q = Calls.after("&Aabc&=c(1(2n))=d0", 100);
        Check.due("what is behind is done in each", q.answers(), 3);
    }

    private static void differentAndEarliest() {
        GoalsInAQueue x = Calls.after("||=a1=a2|=a1&=bc*", 30);
        Check.due("four answers", x.answers(), 4);
        Check.due("different a", x.different(A), 3);
        Check.due("different b", x.different(B), 1);
        int[] due = {0, 1, 0, 3};
        for (int i = 0; i < 4; i++) {
            Check.due("earliest " + i, x.earliest(i, A), due[i]);
            Check.due("earliest of f " + i, x.earliest(i, F), 0);
        }
        Check.due("different 6", x.different(6), -1);
        Check.due("different -1", x.different(-1), -1);
        Check.due("earliest 4", x.earliest(4, A), -1);
        Check.due("earliest -1", x.earliest(-1, A), -1);
        Check.due("earliest of 6", x.earliest(0, 6), -1);
        Check.due("earliest of -1", x.earliest(0, -1), -1);
        Calls.refusals(x, 6);
        Check.due("none different", new GoalsInAQueue().different(A), 0);
        GoalsInAQueue longs = Calls.after("&&=a(bb)&=b(cc)&=c(dd)&=d(ee)=e((ff)(f(ff)))|=f1=f2", 60);
        Check.due("two long ones", longs.different(A), 2);
        GoalsInAQueue cut = Calls.after("&&=a(b0)&=b(cc)&=c(dd)&=d(ee)=e((00)(0(00)))|=f1=f2", 60);
        Check.due("the same ones", cut.different(A), 1);
    }

    private static void meet() {
        GoalsInAQueue x = Calls.after("||=a1=a2|=b1=a(bn)", 30);
        int[][] due = {{1, 0, 1, 0}, {0, 1, 1, 0}, {1, 1, 1, 1}, {0, 0, 1, 1}};
        for (int i = 0; i < 4; i++) {
            for (int j = 0; j < 4; j++) {
                Check.due("meet " + i + " " + j, x.meet(i, j), due[i][j]);
            }
        }
        Check.due("meet 4 0", x.meet(4, 0), -1);
        Check.due("meet 0 4", x.meet(0, 4), -1);
        Check.due("meet -1 -1", x.meet(-1, -1), -1);
        Calls.refusals(x, 3);
        Check.due("answers stay", x.meet(2, 3), 1);
        Calls.dueText(x, 3, A, "(_0.n)");
        Check.due("all of them together", Calls.after("|&=ab=c1&=a1=b2", 30).meet(0, 1), 0);
        Check.due("open ones are others", Calls.after("|=a(bc)=b(ac)", 30).meet(0, 1), 0);
        Check.due("open ones of lists are others", Calls.after("|Ma(1(2b))=c(ab)", 10).meet(0, 1), 1);
        Check.due("kept ones no matter", Calls.after("|#a1=a1", 30).meet(0, 1), 1);
        GoalsInAQueue lists = Calls.after("Aabc", 20);
        Check.due("with itself", lists.meet(3, 3), 1);
        Check.due("lists of two lengths", lists.meet(3, 4), 0);
    }

    private static void need() {
        GoalsInAQueue x = Calls.with("Aabc");
        Check.due("need 1", x.need(1), 2);
        Check.due("need 10", x.need(10), 20);
        Check.due("need 0", x.need(0), -4);
        Check.due("need -5", x.need(-5), -4);
        Check.due("need 11", x.need(11), -6);
        Check.due("the search stays", x.count(0), 0);
        Calls.refusals(x, 0, 0, 0, 2, 0, 1);
        x.steps(7);
        Check.due("anew", x.need(2), 4);
        Check.due("the search stays there", x.count(0), 7);
        Check.due("too few", Calls.after("|=a1=a2", 1).need(3), -9);
        Check.due("just enough", Calls.after("|=a1=a2", 1).need(2), 5);
        Check.due("more than 300", Calls.with("&Aabc&Adef!").need(1), -9);
    }

    private static void left() {
        GoalsInAQueue x = Calls.with("Ma(1(2(1n)))");
        Check.due("left 1", x.left(A, 1), 2);
        Check.due("left 2", x.left(A, 2), 1);
        Check.due("left 3", x.left(A, 3), 0);
        Check.due("left of another", x.left(B, 9), 3);
        Check.due("the search stays", x.count(0), 0);
        Check.due("the goal stays", x.count(2), 1);
        Check.due("left 6 0", x.left(6, 0), -1);
        Check.due("left -1 -1", x.left(-1, -1), -1);
        Check.due("left 0 -1", x.left(A, -1), -4);
        Check.due("left 0 10", x.left(A, 10), -6);
        Calls.refusals(x, 2, 0, 0, 1, 0, 1);
        Check.due("30 at most", Calls.with("|AabcAdbc").left(4, 0), 30);
        GoalsInAQueue y = Calls.with("&Aabc|=d1=d2");
        Check.due("behind 120 steps", y.left(4, 7), 30);
        Check.due("with 24 goals", Calls.with("&".repeat(11) + "*".repeat(12)).left(A, 1), 1);
        Check.due("a step too late", Calls.with("&Aabc&=c(1(1(1n)))Mda").left(4, 7), 6);
    }

    private static void least() {
        GoalsInAQueue x = Calls.with("|=a7=a3");
        Check.due("least a", x.least(A), 3);
        Check.due("least b", x.least(B), 0);
        Check.due("least 6", x.least(6), -1);
        Check.due("least -1", x.least(-1), -1);
        Calls.refusals(x, 2);
        Check.due("least 9", Calls.with("=a9").least(A), 9);
        Check.due("none", Calls.with("=a(bc)").least(A), -9);
        Check.due("kept ones", Calls.with("&#a0#a1").least(A), 2);
    }

    private static void turned() {
        GoalsInAQueue x = Calls.with("|=a1&*=a2");
        Check.due("turned answers", x.turned(0), 2);
        Check.due("turned first", x.turned(1), 5);
        x.steps(3);
        Check.due("the search stays", x.count(0), 3);
        Check.due("the goal stays", x.need(1), 4);
        Check.due("turned 2", x.turned(2), -2);
        Check.due("turned -1", x.turned(-1), -2);
        Calls.refusals(x, 0, 2);
        GoalsInAQueue y = Calls.with("=ab");
        Check.due("no two goals", y.turned(0), -3);
        Check.due("what comes first", y.turned(7), -2);
        Calls.refusals(y, 0, 1, 1);
        Check.due("a new one", new GoalsInAQueue().turned(1), -3);
        Check.due("none", Calls.with("&!*").turned(1), -9);
        Check.due("none of none", Calls.with("&!*").turned(0), 0);
        GoalsInAQueue z = Calls.with("&=c(1n)Aabc");
        Check.due("first of the one", z.need(1), 4);
        Check.due("first of the other", z.turned(1), 5);
        Check.due("120 steps of the other", z.turned(0), 2);
    }

    private static void share() {
        GoalsInAQueue x = Calls.with("Aabc");
        Check.due("none: above", x.share(0), 0);
        Check.due("none: below", x.share(1), 1);
        x.steps(1);
        Check.due("none yet: below", x.share(1), 1);
        x.steps(5);
        Check.due("3 by 6: above", x.share(0), 1);
        Check.due("3 by 6: below", x.share(1), 2);
        x.steps(1);
        Check.due("3 by 7: above", x.share(0), 3);
        Check.due("3 by 7: below", x.share(1), 7);
        Check.due("share 2", x.share(2), 4000000000000000002L);
        Check.due("share -1", x.share(-1), 4000000000000000002L);
        Calls.refusals(x, 0, 2);
    }

    private static void which() {
        GoalsInAQueue x = Calls.with("||=a1=a2&=b3=a(45)");
        Check.due("all that bring any", x.which(A), 1 << 1 | 1 << 2);
        Check.due("by another: all bring one", x.which(C), 1023);
        x.row('1');
        Check.due("the first answer alone", x.which(C), 1023);
        Check.due("a is 1", x.which(A), 2);
        Check.due("the row stays", x.count(6), 1);
        x.row('1');
        Check.due("too many letters", x.which(A), 0);
        x.clear();
        x.row('(');
        Check.due("no first answer is so", x.which(B), 0);
        Check.due("which 6", x.which(6), -1);
        Check.due("which -1", x.which(-1), -1);
        Calls.refusals(x, 2);
        GoalsInAQueue y = Calls.with("&=a(b(cn))|=b1&=b2=c0");
        Calls.tellRow(y, "(2.(");
        Check.due("its first letters", y.which(B), 1 << 2);
        Check.due("the search stays", y.count(0), 0);
    }

    private static void row() {
        GoalsInAQueue x = new GoalsInAQueue();
        Check.due("row 0", x.row(0), 1);
        Check.due("row 127", x.row(127), 2);
        Check.due("row -1", x.row(-1), -4);
        Check.due("row 128", x.row(128), -6);
        for (int i = 3; i <= 32; i++) {
            Check.due("row " + i, x.row(i), i);
        }
        Check.due("row 33", x.row(1), -6);
        Check.due("row -1, full", x.row(-1), -4);
        Check.due("in the row", x.count(6), 32);
        Calls.refusals(x, 0, 0, 0, 2, 0, 2);
    }

    private static void judge() {
        GoalsInAQueue x = Calls.after("=a(12)", 5);
        String[] rows = {"(1.2)", "(1.3)", "n", "", "(1.", "(1.2))", "(1.2)))", "1", "(1.2"};
        int[] due = {-9, 3, 0, 0, 3, 5, 5, 0, 4};
        for (int i = 0; i < rows.length; i++) {
            Calls.tellRow(x, rows[i]);
            Check.due("judge " + rows[i], x.judge(0), due[i]);
            Check.due("the row has none then", x.count(6), 0);
        }
        Calls.tellRow(x, "(1");
        Check.due("judge 1", x.judge(1), -1);
        Check.due("judge -1", x.judge(-1), -1);
        Check.due("the row stays", x.count(6), 2);
        Calls.refusals(x, 2);
        GoalsInAQueue y = Calls.after("|=a1=a2", 9);
        Calls.tellRow(y, "2");
        Check.due("of the second", y.judge(1), -9);
        GoalsInAQueue longer = Calls.after("&=a(bb)&=b(cc)&=c(dd)=d(ee)", 30);
        Calls.tellRow(longer, Calls.text(longer, 0, A).substring(0, 32));
        Check.due("32 of more", longer.judge(0), 32);
    }

    private static void clear() {
        GoalsInAQueue x = new GoalsInAQueue();
        Check.due("clear none", x.clear(), 0);
        Calls.tellRow(x, "abc");
        Check.due("clear three", x.clear(), 3);
        Check.due("none then", x.count(6), 0);
        Check.due("clear again", x.clear(), 0);
        Check.due("row anew", x.row(5), 1);
    }

    private static void lots() {
        GoalsInAQueue x = new GoalsInAQueue();
        Model model = new Model();
        for (int n = 1; n <= 20; n++) {
            for (int z = -3; z < 4; z++) {
                int seed = z * 715827882;
                Check.due("lots " + n + " " + seed + " 0", x.lots(n, seed, 0), model.lots(n, seed, 0));
                Check.due("lots " + n + " " + seed + " 1", x.lots(n, seed, 1), model.lots(n, seed, 1));
            }
        }
        Check.due("lots 0", x.lots(0, 1, 9), -4);
        Check.due("lots 21", x.lots(21, 1, 9), -6);
        Check.due("lots 1 what 2", x.lots(1, 1, 2), -2);
        Check.due("lots 20 what -1", x.lots(20, 1, -1), -2);
        Calls.refusals(x, 0, 2, 0, 1, 0, 1);
        Check.due("the search stays", x.count(0) + x.queue(0), 1);
    }

    private static void imageAndOn() {
        GoalsInAQueue x = Calls.with("Aabc");
        Check.due("on without an image", x.on(), -3);
        Calls.refusals(x, 0, 0, 1);
        x.steps(5);
        Check.due("image", x.image(), 5);
        x.steps(7);
        Calls.tell(x, "|=a1=a2");
        x.goal();
        x.steps(9);
        Calls.tell(x, "=a");
        x.row(9);
        Check.due("on", x.on(), 5);
        Check.due("answers as then", x.answers(), 2);
        Check.due("goals as then", x.count(2), 1);
        Check.due("terms as then", x.count(3), 3);
        Check.due("the queue as then", x.queue(0), 2);
        Check.due("the most as then", x.queue(2), 2);
        Check.due("letters stay", x.count(7), 2);
        Check.due("the row stays", x.count(6), 1);
        Check.due("refusals stay", x.count(13), 1);
        Check.due("need by the goal as then", x.need(3), 6);
        Check.due("going on", x.steps(1), 3);
        Calls.dueText(x, 2, C, "(_0.(_1._2))");
        Check.due("on again", x.on(), 5);
        Check.due("on again: answers", x.answers(), 2);
        x.steps(100);
        Check.due("all of it", x.answers(), 19);
        Check.due("an image later", x.image(), 38);
        x.clear();
        Check.due("fault", x.goal(), -1002);
        Check.due("on", x.on(), 38);
        Check.due("lost as then", x.queue(1), 1);
        GoalsInAQueue y = new GoalsInAQueue();
        Check.due("image of the new", y.image(), 0);
        Check.due("on from it", y.on(), 0);
        Check.due("its answers", y.steps(5), 1);
    }

    private static void count() {
        GoalsInAQueue x = Calls.after("|Mab=c(12)", 5);
        x.row(1);
        x.row(2);
        x.letter(7);
        int[] due = {5, 1, 3, 6, 3, 0, 2, 1, -9, -9, -9, 0, 0, 0, 0, 0, 0, -9};
        for (int what = 0; what < due.length; what++) {
            Check.due("count " + what, x.count(what), due[what]);
        }
        Check.due("count -1", x.count(-1), -9);
        Check.due("count most", x.count(Integer.MAX_VALUE), -9);
        Check.due("count least", x.count(Integer.MIN_VALUE), -9);
        x.when(-1);
        x.queue(9);
        x.on();
        x.letter(-1);
        x.letter(999);
        Calls.refusals(x, 1, 1, 1, 1, 0, 1);
        Check.due("after 10 calls", x.count(10), -9);
    }
}
