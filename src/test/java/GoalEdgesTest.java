/** A test for each sentence about letters and THE GOAL that names a boundary case. */
public final class GoalEdgesTest {
    private GoalEdgesTest() {
    }

    public static void main(String[] args) {
        newObject();
        lettersFrom0To255();
        lettersBelow0();
        lettersAtMost96();
        goalsOf96Letters();
        lettersAreNoMoreBehindGoal();
        goalCountsItself();
        signsOfGoals();
        signsOfTerms();
        signsOfPairs();
        faultAtFirstLetterThatDoesNotFit();
        faultAtTheEnd();
        goalsAtMost24();
        termsAtMost40();
        termsOfPairsCount();
        lesserPlaceOfBoth();
        firstKindAheadOfSecond();
        faultChangesNothing();
        searchBeginsAnew();
        the512thCall();
        Check.end("GoalEdgesTest");
    }

    /** "STEP 0, THE QUEUE one STATE with THE GOAL to do, no BINDINGS, nothing KEPT; no ANSWERS; LOST 0." */
    private static void dueBeginning(GoalsInAQueue x, int goals, int terms) {
        int[] counts = {0, 0, goals, terms, 1, 0};
        int[] queue = {1, 0, 1, 1, 0, 6};
        for (int what = 0; what < 6; what++) {
            Check.due("begun: count " + what, x.count(what), counts[what]);
            Check.due("begun: queue " + what, x.queue(what), queue[what]);
        }
        Check.due("begun: answers", x.answers(), 0);
        Check.due("begun: done", x.done(), 0);
        Check.due("begun: share above", x.share(0), 0);
        Check.due("begun: share below", x.share(1), 1);
    }

    /** "THE GOAL is "*", the SEARCH begun." */
    private static void newObject() {
        GoalsInAQueue x = new GoalsInAQueue();
        dueBeginning(x, 1, 0);
        Check.due("new: row", x.count(6), 0);
        Check.due("new: letters", x.count(7), 0);
        Calls.refusals(x);
        Check.due("new: no image", x.on(), -3);
        Check.due("new: not two goals", x.turned(0), -3);
        Check.due("new: left", x.left(0, 0), 1);
        Check.due("new: step 1", x.steps(1), 0);
        Check.due("new: one waits with nothing to do", x.queue(3), 0);
        Check.due("new: step 2", x.steps(1), 1);
        for (int variable = 0; variable < 6; variable++) {
            Calls.dueText(x, 0, variable, "_0");
        }
    }

    /** "A letter (0 .. 255) comes: how many there are. .. -6 (255; ..)." */
    private static void lettersFrom0To255() {
        GoalsInAQueue x = new GoalsInAQueue();
        Check.due("letter 0", x.letter(0), 1);
        Check.due("letter 255", x.letter(255), 2);
        Check.due("letter 256", x.letter(256), -6);
        Check.due("letter greatest", x.letter(Integer.MAX_VALUE), -6);
        Check.due("letters", x.count(7), 2);
        Calls.refusals(x, 0, 0, 0, 0, 0, 2);
    }

    /** "letter .. -4; .." */
    private static void lettersBelow0() {
        GoalsInAQueue x = new GoalsInAQueue();
        Check.due("letter -1", x.letter(-1), -4);
        Check.due("letter least", x.letter(Integer.MIN_VALUE), -4);
        Check.due("letters", x.count(7), 0);
        Calls.refusals(x, 0, 0, 0, 2);
    }

    /** "letter .. -6 (.. 96, too)." */
    private static void lettersAtMost96() {
        GoalsInAQueue x = new GoalsInAQueue();
        Calls.tell(x, "&".repeat(94));
        Check.due("letter 95", x.letter('&'), 95);
        Check.due("letter 96", x.letter('&'), 96);
        Check.due("letter 97", x.letter('&'), -6);
        Check.due("letter 97 that is 256", x.letter(256), -6);
        Check.due("letter 97 that is -1", x.letter(-1), -4);
        Check.due("96 letters", x.count(7), 96);
        Calls.refusals(x, 0, 0, 0, 1, 0, 2);
        Check.due("nothing but 96 letters", x.goal(), -1096);
        Check.due("letter 1 anew", x.letter('*'), 1);
    }

    /** "A GOAL is told in letters (96 at most)": the last of them is read as each other. */
    private static void goalsOf96Letters() {
        Calls.fault("&".repeat(95) + "*", -1096);
        Calls.fault("&".repeat(95) + "a", -1095);
        Calls.fault("&".repeat(94) + "=a", -1096);
        Calls.fault("&".repeat(46) + "*".repeat(46) + "Aabc", -2024);
        Calls.fault("&".repeat(46) + "*".repeat(46) + "Aab*", -1095);
        Calls.fault("=a" + "(1".repeat(31) + "n" + ")".repeat(31), -2000 - 41);
        // 23 GOALS and 40 TERMS are told in 82 letters at most.
        String longest = "&".repeat(11) + "=" + "(a".repeat(19) + "b" + ")".repeat(19) + "c" + "*".repeat(11);
        Check.due("letters of the longest", longest.length(), 82);
        Calls.fault(longest, 23);
    }

    /** "The letters become THE GOAL, and are no more" */
    private static void lettersAreNoMoreBehindGoal() {
        GoalsInAQueue x = new GoalsInAQueue();
        Check.due("a goal", Calls.retell(x, "=ab"), 1);
        Check.due("letters behind a goal", x.count(7), 0);
        Check.due("goal of none", x.goal(), -1000);
        Check.due("a fault of the first kind", Calls.retell(x, "=a"), -1002);
        Check.due("letters behind it", x.count(7), 0);
        Check.due("goal of none, again", x.goal(), -1000);
        Check.due("a fault of the second kind", Calls.retell(x, "&".repeat(12) + "*".repeat(13)), -2024);
        Check.due("letters behind it", x.count(7), 0);
        Check.due("letter 1 anew", x.letter('!'), 1);
        Check.due("it alone is the goal", x.goal(), 1);
    }

    /** "how many GOALS there are in it (itself, too)" */
    private static void goalCountsItself() {
        String[] goals = {"*", "!", "=ab", "#ab", "Aabc", "Mab", "&*!", "|*!", "&|*!|!*", "|*|*|*|**"};
        int[] due = {1, 1, 1, 1, 1, 1, 3, 3, 7, 9};
        GoalsInAQueue x = new GoalsInAQueue();
        for (int i = 0; i < goals.length; i++) {
            Check.due("goals of " + goals[i], Calls.retell(x, goals[i]), due[i]);
            Check.due("counted goals of " + goals[i], x.count(2), due[i]);
        }
        Calls.refusals(x);
    }

    /** "GOALS: "=" two TERMS; "#" two TERMS; "&" two GOALS; "|" two GOALS; "A" three TERMS; "M" ..; "*"; "!"." */
    private static void signsOfGoals() {
        String[] kinds = {"=", "#", "&", "|", "A", "M", "*", "!"};
        String[] whole = {"=ab", "#ab", "&**", "|**", "Aabc", "Mab", "*", "!"};
        for (int i = 0; i < kinds.length; i++) {
            boolean isWhole = kinds[i].equals(whole[i]);
            Calls.fault(kinds[i], isWhole ? 1 : -1001);
            Calls.fault(whole[i], whole[i].endsWith("**") ? 3 : 1);
            Calls.fault(whole[i] + "*", -1000 - whole[i].length());
            Calls.fault(whole[i] + "a", -1000 - whole[i].length());
            String less = whole[i].substring(0, whole[i].length() - 1);
            Calls.fault(less, -1000 - less.length());
        }
        for (int c = 0; c <= 255; c++) {
            if ("=#&|AM*!".indexOf(c) < 0) {
                Calls.fault("" + (char) c, -1000);
                Calls.fault("&*" + (char) c, -1002);
            }
        }
    }

    /** "TERMS: a .. f; a digit; "n" EMPTY; .." */
    private static void signsOfTerms() {
        for (char c : "abcdef0123456789n".toCharArray()) {
            Calls.fault("=" + c + c, 1);
            Calls.fault("=(" + c + c + ")" + c, 1);
        }
        // Those just below and above them, and signs of GOALS.
        for (char c : "`g/:mo@GN_.)=#&|AM*!".toCharArray()) {
            Calls.fault("=" + c + "1", -1001);
            Calls.fault("=1" + c, -1002);
            Calls.fault("A12" + c, -1003);
            Calls.fault("=(" + c, -1002);
            Calls.fault("=(1" + c, -1003);
        }
        Calls.fault("=1" + (char) 225, -1002);
    }

    /** ""(" TERM TERM ")" a PAIR." */
    private static void signsOfPairs() {
        Calls.fault("=(ab)c", 1);
        Calls.fault("=c(ab)", 1);
        Calls.fault("=((ab)(cd))n", 1);
        Calls.fault("=()c", -1002);
        Calls.fault("=(a)c", -1003);
        Calls.fault("=(abc)", -1004);
        Calls.fault("=(ab(", -1004);
        Calls.fault("=(ab]", -1004);
        Calls.fault("=(ab))c", -1005);
        Calls.fault("=(ab)", -1005);
        Calls.fault("=(a.b)", -1003);
        Calls.fault("(ab)", -1000);
    }

    /** "FAULT: kind 1 the place of the first letter with which no GOAL can go on ..: -1000 less the place" */
    private static void faultAtFirstLetterThatDoesNotFit() {
        Calls.fault("x", -1000);
        Calls.fault("*x", -1001);
        Calls.fault("**", -1001);
        Calls.fault("=abx", -1003);
        Calls.fault("=ab=ab", -1003);
        Calls.fault("=xy", -1001);
        Calls.fault("&*x", -1002);
        Calls.fault("&=a=b", -1003);
        Calls.fault("|=ab=c|", -1006);
        Calls.fault("=" + "(".repeat(94) + "*", -1095);
    }

    /** ".. (the end, if something lacks) .." */
    private static void faultAtTheEnd() {
        Calls.fault("", -1000);
        Calls.fault("&", -1001);
        Calls.fault("=", -1001);
        Calls.fault("=a", -1002);
        Calls.fault("&*", -1002);
        Calls.fault("=(ab", -1004);
        Calls.fault("=" + "(".repeat(95), -1096);
    }

    /** "At most 24 GOALS in all ..; kind 2 the place of the first letter of the 25th GOAL ..: -2000 less the place." */
    private static void goalsAtMost24() {
        Calls.fault("&".repeat(11) + "*".repeat(12), 23);
        Calls.fault("&".repeat(12) + "*".repeat(13), -2024);
        Calls.fault("|".repeat(12) + "!".repeat(13), -2024);
        Calls.fault("&*".repeat(11) + "*", 23);
        Calls.fault("&*".repeat(12) + "*", -2024);
        Calls.fault("&*".repeat(12) + "=ab", -2024);
        Calls.fault("&".repeat(47) + "*".repeat(48), -2024);
        // The 25th GOAL is not always the 25th letter.
        Calls.fault("&".repeat(12) + "=ab" + "*".repeat(12), -2026);
        Calls.fault("&".repeat(12) + "*".repeat(12) + "Aabc", -2024);
        Calls.fault("&".repeat(12) + "=ab".repeat(13), -2048);
        Check.due("23 goals are done", Calls.after("&".repeat(11) + "*".repeat(12), 24).answers(), 1);
    }

    /** "At most .. 40 TERMS in all ..; kind 2 the place of the first letter of .. the 41st TERM" */
    private static void termsAtMost40() {
        String most = "=" + Calls.ones(19) + "a";
        GoalsInAQueue x = new GoalsInAQueue();
        Check.due("40 terms", Calls.retell(x, most), 1);
        Check.due("40 terms counted", x.count(3), 40);
        Check.due("40 terms are done", x.steps(2), 1);
        Check.due("its text", x.length(0, 0), 19 * 4 + 1);
        Calls.fault("=" + Calls.ones(20) + "a", -2041);
        Calls.fault("=a" + Calls.ones(20), -2041);
        Calls.fault("&" + most + "=bc", -2062);
        Calls.fault("&" + most + "Mbc", -2062);
        Calls.fault("&" + most + "*", 3);
        String some = "&".repeat(11) + "Aabc".repeat(11);
        Check.due("40 terms of many goals", Calls.retell(x, some + "A(ab)(cd)e"), 23);
        Check.due("40 of many counted", x.count(3), 40);
        Calls.fault(some + "A(ab)(cd)(ef)", -2065);
    }

    /** ".. 40 TERMS in all (PAIRS and what is in them each)" */
    private static void termsOfPairsCount() {
        String[] goals = {"*", "=ab", "=nn", "=(ab)c", "=(ab)(12)", "=((ab)n)c", "#(ab)c", "A(ab)cd", "Ma(1n)",
            "&=ab#cd"};
        int[] due = {0, 2, 2, 4, 6, 6, 4, 5, 4, 4};
        GoalsInAQueue x = new GoalsInAQueue();
        for (int i = 0; i < goals.length; i++) {
            Calls.retell(x, goals[i]);
            Check.due("terms of " + goals[i], x.count(3), due[i]);
        }
        // The 40th TERM is a PAIR, so what is in it is too much; the 41st is a PAIR itself.
        Calls.fault("=" + Calls.ones(19) + "(ab)", -2060);
        Calls.fault("&=" + Calls.ones(19) + "a=(bc)d", -2062);
    }

    /** ".. the 25th GOAL or the 41st TERM (the lesser place)" */
    private static void lesserPlaceOfBoth() {
        String twelve = "&".repeat(12);
        Calls.fault(twelve + "=" + Calls.ones(20) + "a" + "*".repeat(12), -2053);
        Calls.fault(twelve + "*".repeat(12) + "=" + Calls.ones(20) + "a", -2024);
        Calls.fault(twelve + "=" + Calls.ones(19) + "a" + "*".repeat(11) + "=bc", -2083);
        Calls.fault(twelve + "*".repeat(11) + "=" + Calls.ones(19) + "(ab)*", -2083);
    }

    /** "kind 1 ..; else kind 2": though the place of kind 2 is lesser. */
    private static void firstKindAheadOfSecond() {
        Calls.fault("&".repeat(12) + "*".repeat(12), -1024);
        Calls.fault("&".repeat(12) + "*".repeat(14), -1025);
        Calls.fault("&".repeat(25), -1025);
        Calls.fault("&".repeat(30) + "x", -1030);
        Calls.fault("=" + Calls.ones(20), -1062);
        Calls.fault("=" + Calls.ones(20) + "*", -1062);
        Calls.fault("=" + Calls.ones(20) + "ab", -1063);
    }

    /** "the FAULT (nothing is counted)": THE GOAL, the SEARCH, the ROW and the image stay. */
    private static void faultChangesNothing() {
        GoalsInAQueue x = Calls.after("&#ab|=a1=c(12)", 5);
        x.image();
        x.row(49);
        Check.due("two answers by then", x.steps(3), 2);
        String[] faults = {"", "=a", "x", "&".repeat(12) + "*".repeat(13), "=" + Calls.ones(20) + "a"};
        int[] due = {-1000, -1002, -1000, -2024, -2041};
        for (int i = 0; i < faults.length; i++) {
            Check.due("fault of " + faults[i], Calls.retell(x, faults[i]), due[i]);
            int[] counts = {7, 2, 5, 8, 0, 0, 1, 0};
            for (int what = 0; what < 8; what++) {
                Check.due("behind a fault: count " + what, x.count(what), counts[what]);
            }
            Check.due("behind a fault: kept", x.kept(0), 1);
            Check.due("behind a fault: done", x.done(), 1);
            Check.due("behind a fault: need", x.need(2), 7);
            Calls.dueText(x, 1, 2, "(1.2)");
            Calls.refusals(x);
        }
        Check.due("the row is the same", x.judge(0), -9);
        Check.due("the image is the same", x.on(), 5);
        Check.due("so is what it holds", x.queue(0), 2);
    }

    /** "It becomes THE GOAL .., and the SEARCH begins anew" */
    private static void searchBeginsAnew() {
        GoalsInAQueue x = Calls.after("&#ab|Aabc=d1", 200);
        Check.holds("some are lost", x.queue(1) > 0);
        Check.holds("some have waited", x.queue(2) > 2);
        Check.due("20 answers", x.answers(), 20);
        Check.due("a goal", Calls.retell(x, "=a(bc)"), 1);
        dueBeginning(x, 1, 4);
        Check.due("its answer", x.steps(9), 1);
        Calls.dueText(x, 0, 0, "(_0._1)");
        Calls.dueText(x, 0, 1, "_0");
        Check.due("the same goal", Calls.retell(x, "=a(bc)"), 1);
        dueBeginning(x, 1, 4);

        GoalsInAQueue y = Calls.after("&Aabc&Adef!", 300);
        Check.due("no step is left", y.steps(1), -6);
        Check.due("a goal at step 300", Calls.retell(y, "#ab"), 1);
        dueBeginning(y, 1, 2);
        Check.due("100 steps again", y.steps(100), 1);
        Check.due("kept in it", y.kept(0), 1);
        Check.due("a goal of a done search", Calls.retell(y, "&*#ab"), 3);
        dueBeginning(y, 3, 2);
    }

    /** "An object is used for at most 512 calls after it has been made" */
    private static void the512thCall() {
        GoalsInAQueue x = new GoalsInAQueue();
        Calls.tell(x, "Aabc");
        Check.due("call 5", x.goal(), 1);
        for (int call = 6; call <= 510; call++) {
            Check.due("call " + call, x.steps(call % 2 == 0 ? 0 : 101), call % 2 == 0 ? -4 : -6);
        }
        Check.due("call 511", x.steps(100), 19);
        Check.due("call 512", x.count(14), 253);
        // What later calls answer is free, but they may not throw.
        x.steps(100);
        x.text(0, 0, 0);
    }
}
