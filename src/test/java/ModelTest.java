import java.util.Random;

/** Long runs of calls by lot (from fixed seeds), each answer against that of the Model. */
public final class ModelTest {
    private static final int RUNS = 1500;
    private static final int CALLS = 512;

    private final Random random;
    private final GoalsInAQueue made = new GoalsInAQueue();
    private final Model due = new Model();
    private final StringBuilder told = new StringBuilder();
    private int calls = 0;

    private ModelTest(long seed) {
        random = new Random(seed);
    }

    public static void main(String[] args) {
        int runs = args.length > 0 ? Integer.parseInt(args[0]) : RUNS;
        long from = args.length > 1 ? Long.parseLong(args[1]) : 0;
        for (long seed = from; seed < from + runs && Check.isAllRight(); seed++) {
            ModelTest test = new ModelTest(seed);
            test.run();
            if (!Check.isAllRight()) {
                System.out.println("seed " + seed + ": " + test.told);
            }
        }
        Check.end("ModelTest");
    }

    private void run() {
        while (calls < CALLS && Check.isAllRight()) {
            tellGoal();
            int times = 1 + random.nextInt(6);
            for (int i = 0; i < times && calls < CALLS; i++) {
                int n = random.nextInt(8) == 0 ? random.nextInt(120) - 5
                    : random.nextInt(3) == 0 ? 1 + random.nextInt(100) : 1 + random.nextInt(12);
                due("steps " + n, made.steps(n), due.steps(n));
                int looks = random.nextInt(30);
                for (int k = 0; k < looks && calls < CALLS; k++) {
                    look();
                }
            }
        }
        for (int what = -1; what < 19; what++) {
            due("count " + what, made.count(what), due.count(what));
        }
    }

    private void due(String call, long got, long want) {
        calls++;
        told.append(call).append('=').append(got).append("; ");
        Check.due(call, got, want);
    }

    private void letter(int c) {
        due("letter " + c, made.letter(c), due.letter(c));
    }

    private void tellGoal() {
        String goal = random.nextInt(12) == 0 ? wideGoal() : goalOf(1 + random.nextInt(5));
        StringBuilder letters = new StringBuilder(goal);
        if (random.nextInt(8) == 0 && letters.length() > 0) {
            letters.setCharAt(random.nextInt(letters.length()), "=#&|AM*!abf09n()x".charAt(random.nextInt(17)));
        }
        if (random.nextInt(12) == 0) {
            letters.setLength(random.nextInt(letters.length() + 1));
        }
        for (int i = 0; i < letters.length(); i++) {
            letter(letters.charAt(i));
        }
        due("goal", made.goal(), due.goal());
    }

    /** Goals that go to the edges: many states, many variables, many goals and terms. */
    private String wideGoal() {
        switch (random.nextInt(7)) {
            case 0:
                return "&".repeat(random.nextInt(30)) + "*".repeat(random.nextInt(30));
            case 1:
                return "=" + "(a".repeat(random.nextInt(30)) + term(0) + ")".repeat(random.nextInt(30)) + "b";
            case 2:
                return "&&&Aabc|AadeMbaAdef";
            case 3:
                return "|&Aabc#ab|&Mab#a1&AbcdMac";
            case 4:
                return "&=a((bb)(bb))&=b((cc)(cc))&=c((dd)(dd))&=d(ef)" + goalOf(1);
            case 5:
                return "&".repeat(6) + "|*".repeat(6) + "*" + "Mab".repeat(6);
            default:
                return "&Aab" + term(3) + goalOf(3);
        }
    }

    private String goalOf(int depth) {
        if (depth > 0 && random.nextInt(4) > 0) {
            return (random.nextInt(3) == 0 ? "|" : "&") + goalOf(depth - 1) + goalOf(depth - 1);
        }
        switch (random.nextInt(12)) {
            case 0:
                return "*";
            case 1:
                return random.nextInt(3) == 0 ? "!" : "*";
            case 2:
            case 3:
            case 4:
                return "#" + term(2) + term(2);
            case 5:
            case 6:
                return "A" + term(2) + term(1) + (random.nextBoolean() ? list() : term(1));
            case 7:
            case 8:
                return "M" + term(1) + (random.nextBoolean() ? list() : term(1));
            default:
                return "=" + term(2) + term(2);
        }
    }

    private String list() {
        String list = random.nextInt(4) == 0 ? term(0) : "n";
        int size = random.nextInt(4);
        for (int i = 0; i < size; i++) {
            list = "(" + term(0) + list + ")";
        }
        return list;
    }

    private String term(int depth) {
        if (depth > 0 && random.nextInt(3) == 0) {
            return "(" + term(depth - 1) + term(depth - 1) + ")";
        }
        int kind = random.nextInt(9);
        if (kind < 6) {
            return "" + (char) ('a' + random.nextInt(6));
        }
        return kind < 8 ? "" + random.nextInt(random.nextInt(3) == 0 ? 10 : 3) : "n";
    }

    private int answer() {
        return random.nextInt(10) == 0 ? random.nextInt(34) - 2 : random.nextInt(Math.max(1, due.answers()));
    }

    private int variable() {
        return random.nextInt(12) == 0 ? random.nextInt(10) - 2 : random.nextInt(6);
    }

    private int odd() {
        return random.nextBoolean() ? Integer.MIN_VALUE : Integer.MAX_VALUE;
    }

    private void look() {
        int i = random.nextInt(40) == 0 ? odd() : answer();
        int v = random.nextInt(40) == 0 ? odd() : variable();
        int w = random.nextInt(40) == 0 ? odd() : random.nextInt(12) == 0 ? random.nextInt(9) - 2 : random.nextInt(2);
        int k;
        switch (random.nextInt(28)) {
            case 0:
                due("answers", made.answers(), due.answers());
                break;
            case 1:
                due("length " + i + " " + v, made.length(i, v), due.length(i, v));
                break;
            case 2:
            case 3:
            case 4:
                k = random.nextInt(8) == 0 ? random.nextInt(210) - 3 : random.nextInt(20) - 1;
                due("text " + i + " " + v + " " + k, made.text(i, v, k), due.text(i, v, k));
                break;
            case 5:
                due("when " + i, made.when(i), due.when(i));
                break;
            case 6:
                due("kept " + i, made.kept(i), due.kept(i));
                break;
            case 7:
            case 8:
                k = random.nextInt(8) - 1;
                due("queue " + k, made.queue(k), due.queue(k));
                break;
            case 9:
                due("done", made.done(), due.done());
                break;
            case 10:
                due("different " + v, made.different(v), due.different(v));
                break;
            case 11:
                due("earliest " + i + " " + v, made.earliest(i, v), due.earliest(i, v));
                break;
            case 12:
            case 13:
                k = answer();
                due("meet " + i + " " + k, made.meet(i, k), due.meet(i, k));
                break;
            case 14:
                k = random.nextInt(13) - 1;
                due("need " + k, made.need(k), due.need(k));
                break;
            case 15:
                k = random.nextInt(12) - 1;
                due("left " + v + " " + k, made.left(v, k), due.left(v, k));
                break;
            case 16:
                if (random.nextInt(4) == 0) {
                    due("least " + v, made.least(v), due.least(v));
                }
                break;
            case 17:
                due("turned " + w, made.turned(w), due.turned(w));
                break;
            case 18:
                due("share " + w, made.share(w), due.share(w));
                break;
            case 19:
                if (random.nextInt(4) == 0) {
                    due("which " + v, made.which(v), due.which(v));
                }
                break;
            case 20:
            case 21:
                tellRow(i);
                break;
            case 22:
                due("judge " + i, made.judge(i), due.judge(i));
                break;
            case 23:
                due("clear", made.clear(), due.clear());
                break;
            case 24:
                k = random.nextInt(24) - 1;
                int z = random.nextInt();
                due("lots " + k + " " + z + " " + w, made.lots(k, z, w), due.lots(k, z, w));
                break;
            case 25:
                due("image", made.image(), due.image());
                break;
            case 26:
                due("on", made.on(), due.on());
                break;
            default:
                k = random.nextInt(20) - 1;
                due("count " + k, made.count(k), due.count(k));
                break;
        }
    }

    /** Numbers that are mostly the letters of a text, so that judge and which have something to tell. */
    private void tellRow(int i) {
        int size = random.nextInt(8);
        for (int k = 0; k < size; k++) {
            int sign = due.text(i, 0, k);
            made.text(i, 0, k);
            int v = sign > 0 && random.nextInt(10) > 0 ? sign : random.nextInt(132) - 2;
            due("row " + v, made.row(v), due.row(v));
        }
    }
}
