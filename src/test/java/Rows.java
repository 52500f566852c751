import java.util.ArrayList;
import java.util.HashMap;
import java.util.List;
import java.util.Map;

/**
 * Runs of calls, each on a new object, under a sentence of the document that they hold the class to.
 * A run is one text: call(..)=answer, or call(..)!I, !A or !S where the call throws exactly IndexOutOfBoundsException,
 * IllegalArgumentException or IllegalStateException, or call(..) alone where any answer but an exception will do.
 * Of each call that is refused it is also seen that it changes nothing (section 12): an object with it and one
 * without it answer all questions alike, now and behind each undo.
 */
final class Rows {
    private static final Calls CALLS = new Calls(JobWorkshop.class);
    private static final List<?> TOLD_EXCEPTIONS = List.of(IndexOutOfBoundsException.class, IllegalArgumentException.class, IllegalStateException.class);
    private static final int MOST_CALLS = 512;
    private static final int MOST_UNDOS = 9;
    private static final int MOST_STEPS = 5;
    private static final int MOST_PLACES = 30;

    private final Map<String, String> seen = new HashMap<>();
    private String sentence = "";
    private int sentences = 0;
    private int wrong = 0;

    /** Names what the next runs hold the class to: the promise (or section) and its sentence. */
    void says(String told) {
        sentence = told;
        sentences++;
    }

    void run(String... parts) {
        JobWorkshop x = new JobWorkshop();
        List<String> ahead = new ArrayList<>();
        for (String told : String.join(" ", parts).trim().split("\\s+")) {
            String call = told.substring(0, told.indexOf(')') + 1);
            Object got = CALLS.answer(x, call);
            Object due = due(told.substring(call.length()), got);
            if (!due.equals(got)) {
                fault(call + " behind " + ahead + " answered " + got + ", due is " + due);
            }
            if (told.contains("!")) {
                changedNothing(String.join(" ", ahead), call);
            } else {
                ahead.add(call);
            }
        }
    }

    void fault(String what) {
        wrong++;
        System.out.println("promise " + sentence + ": " + what);
    }

    void finish() {
        System.out.println(wrong == 0 ? sentences + " sentences hold" : wrong + " answers are not as due");
        if (wrong != 0) {
            System.exit(1);
        }
    }

    private static Object due(String told, Object got) {
        switch (told) {
            case "": return got instanceof Class ? "an answer" : got;
            case "!I": return IndexOutOfBoundsException.class;
            case "!A": return IllegalArgumentException.class;
            case "!S": return IllegalStateException.class;
            case "=true": return true;
            case "=false": return false;
            default: break;
        }
        String[] number = told.substring(1).split("/");
        if (number.length == 1) {
            return Integer.valueOf(number[0]);
        }
        // A quotient is told as its two numbers, and divided as the answer's type does it.
        return got instanceof Float
            ? (Object) (Float.parseFloat(number[0]) / Float.parseFloat(number[1]))
            : (Object) (Double.parseDouble(number[0]) / Double.parseDouble(number[1]));
    }

    /** That the call, made behind those ahead of it, leaves no trace: in no answer, and behind no undo. */
    private void changedNothing(String ahead, String call) {
        for (int undos = 0; undos <= MOST_UNDOS; undos++) {
            String with = look(ahead + " " + call, undos);
            String without = seen.get(ahead + "#" + undos);
            if (without == null) {
                without = look(ahead, undos);
                seen.put(ahead + "#" + undos, without);
            }
            if (!with.equals(without)) {
                fault(call + " behind [" + ahead + "] changed something, seen behind " + undos + " undos:\n  " + with + "\n  " + without);
                return;
            }
            if (with.startsWith("[-1")) {
                return;
            }
        }
    }

    /** All that can be asked of a new object behind some calls and then some undos, as one text that begins with the last undo's answer. */
    static String look(String ahead, int undos) {
        Look look = new Look(new JobWorkshop());
        for (String call : ahead.trim().split("\\s+")) {
            if (!call.isEmpty()) {
                CALLS.answer(look.x, call);
                look.calls++;
            }
        }
        for (int undo = 0; undo < undos; undo++) {
            look.text.setLength(0);
            look.ask("undo");
        }
        look.askAll();
        look.probe();
        if (look.calls > MOST_CALLS) {
            throw new IllegalStateException("an object is used for at most 512 calls, not for " + look.calls);
        }
        return look.text.insert(0, '[').toString();
    }

    private static final class Look {
        final JobWorkshop x;
        final StringBuilder text = new StringBuilder();
        int calls = 0;

        Look(JobWorkshop x) {
            this.x = x;
        }

        Object ask(String name, Object... numbers) {
            calls++;
            Object got = CALLS.ask(x, name, numbers);
            if (got instanceof Class && !TOLD_EXCEPTIONS.contains(got)) {
                throw new IllegalStateException("the machine threw in " + name + ": " + got);
            }
            text.append(got instanceof Class ? ((Class<?>) got).getSimpleName().substring(0, 3) : got).append(' ');
            return got;
        }

        void askAll() {
            int jobs = (int) ask("jobs");
            for (int job = 0; job < jobs; job++) {
                for (int what = 0; what < 6; what++) ask("jobAt", job, what);
                for (String name : new String[] {"endOf", "isDropped", "twoAt", "setupAt"}) ask(name, job);
                for (int step = 0; step < MOST_STEPS && !(ask("stepAt", job, step, 0) instanceof Class); step++) {
                    ask("stepAt", job, step, 1);
                    ask("begin", job, step);
                    ask("slack", job, step);
                }
                ask("delay", job, 0);
                ask("delay", job, jobs - 1);
                ask("promise", job, 300, 700);
            }
            for (String name : new String[] {"bound", "wayLength", "blocks", "longestBlock", "leastSum", "leastLateness", "fewestLate", "leastEnd", "leastSetup", "meanEnd", "errors"}) ask(name);
            for (int aim = 0; aim < 5; aim++) ask("value", aim);
            for (int machine = 0; machine < 4; machine++) {
                for (int place = 0; place < MOST_PLACES && !(ask("orderAt", machine, place) instanceof Class); place++) { }
                for (int hour = 0; hour < 16; hour += 5) ask("doneIn", machine, hour);
                ask("use", machine);
                ask("workerOf", 15, machine);
            }
            for (int place = 0; place < MOST_PLACES && !(ask("wayAt", place) instanceof Class); place++) { }
            for (int set = 0; set < 16; set++) ask("match", set);
            for (int what = 0; what < 3; what++) ask("worked", 9, what);
        }

        /** What no question tells is told by changes; the object is not used behind them. */
        void probe() {
            int jobs = (int) ask("jobs");
            ask("plan", 0);
            for (int job = 0; job < jobs; job++) {
                for (int step = 0; step < MOST_STEPS && !(ask("begin", job, step) instanceof Class); step++) { }
            }
            for (int machine = 0; machine < 4; machine++) {
                ask("close", machine, 0, 1);
                ask("setTool", machine, 0, 0);
            }
            for (int pair = 0; pair < 16; pair++) ask("setSetup", pair / 4, pair % 4, 0);
            for (int worker = 0; worker < 6; worker++) ask("setWorker", worker, 0);
        }
    }
}
