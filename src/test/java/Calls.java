/** Calls that tests make again and again. */
final class Calls {
    private Calls() {
    }

    static void tell(GoalsInAQueue x, String letters) {
        for (int i = 0; i < letters.length(); i++) {
            x.letter(letters.charAt(i));
        }
    }

    static int retell(GoalsInAQueue x, String goal) {
        tell(x, goal);
        return x.goal();
    }

    static GoalsInAQueue with(String goal) {
        GoalsInAQueue x = new GoalsInAQueue();
        Check.holds("a goal: " + goal, retell(x, goal) > 0);
        return x;
    }

    static void go(GoalsInAQueue x, int steps) {
        for (int left = steps; left > 0; left -= 100) {
            x.steps(Math.min(left, 100));
        }
    }

    static GoalsInAQueue after(String goal, int steps) {
        GoalsInAQueue x = with(goal);
        go(x, steps);
        return x;
    }

    static void fault(String letters, int due) {
        GoalsInAQueue x = new GoalsInAQueue();
        Check.due("goal of " + letters, retell(x, letters), due);
    }

    static String text(GoalsInAQueue x, int i, int variable) {
        StringBuilder text = new StringBuilder();
        int length = x.length(i, variable);
        for (int k = 0; k < length; k++) {
            text.append((char) x.text(i, variable, k));
        }
        return text.toString();
    }

    static void dueText(GoalsInAQueue x, int i, int variable, String due) {
        String got = text(x, i, variable);
        Check.holds("text " + i + " " + variable + " is " + got + ", due is " + due, got.equals(due));
        Check.due("length", x.length(i, variable), due.length());
        Check.due("behind the text", x.text(i, variable, due.length()), -9);
    }

    static void tellRow(GoalsInAQueue x, String letters) {
        for (int i = 0; i < letters.length(); i++) {
            x.row(letters.charAt(i));
        }
    }

    /** How many REFUSALS of -1 .. -6 are due (none of those not told). */
    static void refusals(GoalsInAQueue x, int... due) {
        for (int i = 0; i < 6; i++) {
            Check.due("refusals -" + (i + 1), x.count(11 + i), i < due.length ? due[i] : 0);
        }
    }

    /** A list of so many times 1, as letters of a TERM. */
    static String ones(int size) {
        return "(1".repeat(size) + "n" + ")".repeat(size);
    }
}
