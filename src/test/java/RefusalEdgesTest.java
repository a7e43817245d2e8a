import java.util.ArrayList;
import java.util.List;
import java.util.function.ToLongFunction;

/**
 * "REFUSALS (the call answers the number, the first that fits in the order in which it tells them; nothing changes
 * but how many there were)": each refused call is made amid a search, and all that can be looked at is compared with
 * an object of the same calls without it.
 */
public final class RefusalEdgesTest {
    private static final long LONGS = 4000000000000000000L;
    private static final int LEAST = Integer.MIN_VALUE;
    private static final int GREATEST = Integer.MAX_VALUE;

    /** What an object has behind it when a refused call comes. */
    private enum Past { NEW, ANSWERS, FULL, LATE, DONE_LATE, NO_IMAGE }

    private record Refused(Past past, int number, String call, ToLongFunction<GoalsInAQueue> made) {
    }

    private static final List<Refused> REFUSED = new ArrayList<>();

    private RefusalEdgesTest() {
    }

    public static void main(String[] args) {
        ofLetters();
        ofSteps();
        ofAnswers();
        ofQueue();
        ofTheSearchAnew();
        ofTheRow();
        ofLots();
        ofTheImage();
        for (Refused one : REFUSED) {
            refused(one);
        }
        Check.holds("there were many", REFUSED.size() > 100);
        countedOneByOne();
        notRefused();
        Check.end("RefusalEdgesTest");
    }

    private static void add(Past past, int number, String call, ToLongFunction<GoalsInAQueue> made) {
        REFUSED.add(new Refused(past, number, call, made));
    }

    /** "letter: -4; -6 (255; 96, too)." */
    private static void ofLetters() {
        for (int c : new int[] {-1, LEAST}) {
            add(Past.ANSWERS, -4, "letter " + c, x -> x.letter(c));
            add(Past.FULL, -4, "letter " + c, x -> x.letter(c));
        }
        for (int c : new int[] {256, GREATEST}) {
            add(Past.ANSWERS, -6, "letter " + c, x -> x.letter(c));
            add(Past.FULL, -6, "letter " + c, x -> x.letter(c));
        }
        add(Past.FULL, -6, "letter 0", x -> x.letter(0));
        add(Past.FULL, -6, "letter 255", x -> x.letter(255));
    }

    /** "steps: -4; -6 (100; STEP above 300, were all n made)." */
    private static void ofSteps() {
        for (Past past : new Past[] {Past.NEW, Past.ANSWERS, Past.LATE, Past.DONE_LATE}) {
            for (int n : new int[] {0, -1, LEAST}) {
                add(past, -4, "steps " + n, x -> x.steps(n));
            }
            for (int n : new int[] {101, 300, GREATEST}) {
                add(past, -6, "steps " + n, x -> x.steps(n));
            }
        }
        add(Past.LATE, -6, "steps 51", x -> x.steps(51));
        add(Past.LATE, -6, "steps 100", x -> x.steps(100));
        add(Past.DONE_LATE, -6, "steps 12", x -> x.steps(12));
        add(Past.DONE_LATE, -6, "steps 100", x -> x.steps(100));
    }

    /** "length, text, when, kept, earliest, meet: -1 .."; "text: -1 either; -4."; "different: -1." */
    private static void ofAnswers() {
        for (int i : new int[] {-1, 2, 30, LEAST, GREATEST}) {
            add(Past.ANSWERS, -1, "length " + i + " 0", x -> x.length(i, 0));
            add(Past.ANSWERS, -1, "text " + i + " 0 0", x -> x.text(i, 0, 0));
            add(Past.ANSWERS, -1, "text " + i + " 0 -1", x -> x.text(i, 0, -1));
            add(Past.ANSWERS, -1, "when " + i, x -> x.when(i));
            add(Past.ANSWERS, -1, "kept " + i, x -> x.kept(i));
            add(Past.ANSWERS, -1, "earliest " + i + " 0", x -> x.earliest(i, 0));
            add(Past.ANSWERS, -1, "meet " + i + " 0", x -> x.meet(i, 0));
            add(Past.ANSWERS, -1, "meet 0 " + i, x -> x.meet(0, i));
            add(Past.ANSWERS, -1, "meet " + i + " " + i, x -> x.meet(i, i));
            add(Past.ANSWERS, -1, "length " + i + " 6", x -> x.length(i, 6));
        }
        for (int v : new int[] {-1, 6, LEAST, GREATEST}) {
            add(Past.ANSWERS, -1, "length 0 " + v, x -> x.length(0, v));
            add(Past.ANSWERS, -1, "text 0 " + v + " 0", x -> x.text(0, v, 0));
            add(Past.ANSWERS, -1, "text 0 " + v + " -1", x -> x.text(0, v, -1));
            add(Past.ANSWERS, -1, "earliest 0 " + v, x -> x.earliest(0, v));
            add(Past.ANSWERS, -1, "different " + v, x -> x.different(v));
            add(Past.NEW, -1, "different " + v, x -> x.different(v));
        }
        add(Past.ANSWERS, -4, "text 0 0 -1", x -> x.text(0, 0, -1));
        add(Past.ANSWERS, -4, "text 1 5 least", x -> x.text(1, 5, LEAST));
        add(Past.NEW, -1, "when 0", x -> x.when(0));
        add(Past.NEW, -1, "meet 0 0", x -> x.meet(0, 0));
    }

    /** "queue: -2."; "share: Refused as told: -2."; "Of longs 4000000000000000000 less them" */
    private static void ofQueue() {
        for (int what : new int[] {-1, 6, LEAST, GREATEST}) {
            add(Past.ANSWERS, -2, "queue " + what, x -> x.queue(what));
            add(Past.NEW, -2, "queue " + what, x -> x.queue(what));
        }
        for (int part : new int[] {-1, 2, LEAST, GREATEST}) {
            add(Past.ANSWERS, -2, "share " + part, x -> LONGS - x.share(part));
            add(Past.NEW, -2, "share " + part, x -> LONGS - x.share(part));
        }
    }

    /** "need: -4; -6 10."; "left: -1; -4; -6 9."; "least: -1."; "turned: -2; -3 .."; "which: -1." */
    private static void ofTheSearchAnew() {
        for (int k : new int[] {0, -1, LEAST}) {
            add(Past.ANSWERS, -4, "need " + k, x -> x.need(k));
        }
        for (int k : new int[] {11, GREATEST}) {
            add(Past.ANSWERS, -6, "need " + k, x -> x.need(k));
        }
        for (int v : new int[] {-1, 6, LEAST, GREATEST}) {
            for (int atom : new int[] {0, -1, 10, LEAST, GREATEST}) {
                add(Past.ANSWERS, -1, "left " + v + " " + atom, x -> x.left(v, atom));
            }
            add(Past.ANSWERS, -1, "least " + v, x -> x.least(v));
            add(Past.ANSWERS, -1, "which " + v, x -> x.which(v));
        }
        add(Past.ANSWERS, -4, "left 0 -1", x -> x.left(0, -1));
        add(Past.ANSWERS, -4, "left 5 least", x -> x.left(5, LEAST));
        add(Past.ANSWERS, -6, "left 0 10", x -> x.left(0, 10));
        add(Past.ANSWERS, -6, "left 5 greatest", x -> x.left(5, GREATEST));
        for (int what : new int[] {-1, 2, LEAST, GREATEST}) {
            add(Past.ANSWERS, -2, "turned " + what, x -> x.turned(what));
            add(Past.NEW, -2, "turned " + what, x -> x.turned(what));
        }
        add(Past.NEW, -3, "turned 0", x -> x.turned(0));
        add(Past.NEW, -3, "turned 1", x -> x.turned(1));
    }

    /** "row: -4; -6 (127; 32, too)."; "judge: -1 (the ROW stays)." */
    private static void ofTheRow() {
        for (int v : new int[] {-1, LEAST}) {
            add(Past.ANSWERS, -4, "row " + v, x -> x.row(v));
            add(Past.FULL, -4, "row " + v, x -> x.row(v));
        }
        for (int v : new int[] {128, 255, GREATEST}) {
            add(Past.ANSWERS, -6, "row " + v, x -> x.row(v));
            add(Past.FULL, -6, "row " + v, x -> x.row(v));
        }
        add(Past.FULL, -6, "row 0", x -> x.row(0));
        add(Past.FULL, -6, "row 127", x -> x.row(127));
        for (int i : new int[] {-1, 2, 30, LEAST, GREATEST}) {
            add(Past.ANSWERS, -1, "judge " + i, x -> x.judge(i));
        }
        add(Past.FULL, -1, "judge 30", x -> x.judge(30));
    }

    /** "lots: -4; -6 20; -2." */
    private static void ofLots() {
        for (int what : new int[] {0, 1, 2, -1}) {
            for (int n : new int[] {0, -1, LEAST}) {
                add(Past.ANSWERS, -4, "lots " + n + " 7 " + what, x -> x.lots(n, 7, what));
            }
            for (int n : new int[] {21, GREATEST}) {
                add(Past.ANSWERS, -6, "lots " + n + " 7 " + what, x -> x.lots(n, 7, what));
            }
        }
        for (int what : new int[] {2, -1, LEAST, GREATEST}) {
            add(Past.ANSWERS, -2, "lots 1 7 " + what, x -> x.lots(1, 7, what));
            add(Past.ANSWERS, -2, "lots 20 -7 " + what, x -> x.lots(20, -7, what));
        }
    }

    /** "on: -3 there is none." */
    private static void ofTheImage() {
        add(Past.NO_IMAGE, -3, "on", x -> x.on());
        add(Past.NEW, -3, "on", x -> x.on());
    }

    private static GoalsInAQueue lived(Past past) {
        GoalsInAQueue x = new GoalsInAQueue();
        if (past == Past.NEW) {
            return x;
        }
        if (past == Past.LATE || past == Past.DONE_LATE) {
            Calls.retell(x, past == Past.LATE ? "&Aabc&Adef!" : "|".repeat(9) + "Maa".repeat(10));
            Calls.go(x, past == Past.LATE ? 250 : 289);
        } else {
            Calls.retell(x, "&#ef|=a1|&=b2#cd|*&*=a(1(bc))");
            Calls.go(x, 13);
        }
        if (past != Past.NO_IMAGE) {
            x.image();
            x.steps(1);
        }
        Calls.tellRow(x, past == Past.FULL ? "(1.".repeat(10) + "(1" : "_");
        Calls.tell(x, past == Past.FULL ? "&".repeat(96) : "&=a");
        return x;
    }

    /** All that can be looked at, and at last what calls make of the ROW, of the letters and of the image. */
    private static String looks(GoalsInAQueue x) {
        StringBuilder out = new StringBuilder();
        for (int what = 0; what < 8; what++) {
            out.append(x.count(what)).append(' ').append(what < 6 ? x.queue(what) : x.done()).append(' ');
        }
        for (int i = 0; i < x.answers(); i++) {
            out.append(x.when(i)).append(' ').append(x.kept(i)).append(' ');
            for (int v = 0; v < 6; v++) {
                out.append(Calls.text(x, i, v)).append(' ').append(x.earliest(i, v)).append(' ');
            }
        }
        for (int v = 0; v < 6; v++) {
            out.append(x.different(v)).append(' ').append(x.least(v)).append(' ').append(x.which(v)).append(' ');
        }
        out.append(x.need(1)).append(' ').append(x.need(3)).append(' ').append(x.left(0, 1)).append(' ');
        out.append(x.share(0)).append(' ').append(x.share(1)).append(' ').append(x.lots(9, 9, 1)).append(' ');
        if (x.count(0) < 300) {
            out.append(x.steps(1)).append(' ').append(x.count(0)).append(' ');
        }
        out.append(x.answers() > 0 ? x.judge(0) : x.clear()).append(' ').append(x.count(6)).append(' ');
        Calls.tell(x, "b*");
        out.append(x.goal()).append(' ').append(x.need(1)).append(' ').append(x.on()).append(' ').append(x.need(1));
        return out.append(' ').append(x.queue(0)).append(' ').append(x.answers()).toString();
    }

    private static void refused(Refused one) {
        String call = one.past + ": " + one.call;
        GoalsInAQueue x = lived(one.past);
        Calls.refusals(x);
        Check.due(call, one.made.applyAsLong(x), one.number);
        for (int k = 0; k < 6; k++) {
            Check.due(call + ": refusals " + -(k + 1), x.count(11 + k), one.number == -(k + 1) ? 1 : 0);
        }
        String due = looks(lived(one.past));
        String got = looks(x);
        Check.holds(call + ": " + got + " is as without it: " + due, got.equals(due));
    }

    /** "nothing changes but how many there were": each number has its own count. */
    private static void countedOneByOne() {
        GoalsInAQueue x = new GoalsInAQueue();
        for (int times = 1; times <= 3; times++) {
            x.when(0);
            Calls.refusals(x, times, times - 1, times - 1, times - 1, 0, times - 1);
            x.share(2);
            Calls.refusals(x, times, times, times - 1, times - 1, 0, times - 1);
            x.on();
            Calls.refusals(x, times, times, times, times - 1, 0, times - 1);
            x.steps(0);
            Calls.refusals(x, times, times, times, times, 0, times - 1);
            x.need(11);
            Calls.refusals(x, times, times, times, times, 0, times);
        }
        Calls.retell(x, "=ab");
        x.image();
        x.on();
        Calls.refusals(x, 3, 3, 3, 3, 0, 3);
    }

    /** A FAULT, an answer of -9 and a STEP less than asked for are none. */
    private static void notRefused() {
        GoalsInAQueue x = Calls.with("=an");
        x.goal();
        Calls.retell(x, "&".repeat(12) + "*".repeat(13));
        x.queue(3);
        x.steps(100);
        x.queue(5);
        Check.due("no such letter", x.text(0, 0, 1), -9);
        Check.due("no such need", x.need(2), -9);
        Check.due("no least", x.least(0), -9);
        Check.due("no other what", x.count(-5), -9);
        Calls.tellRow(x, "n");
        Check.due("all is so", x.judge(0), -9);
        Calls.retell(x, "&!*");
        Check.due("no turned", x.turned(1), -9);
        Calls.refusals(x);
    }
}
