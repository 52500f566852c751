import java.util.ArrayList;
import java.util.Arrays;
import java.util.List;
import java.util.Map;
import java.util.TreeMap;

/**
 * Each call of the face with all combinations of the numbers at the edges of what it takes, in several states:
 * the class answers, or throws, as the model of the document does, and a change leaves the same plan behind.
 */
public final class SweepTest {
    private static final Calls REAL = new Calls(JobWorkshop.class);
    private static final Calls MODEL = new Calls(ShopModel.class);
    private static final int MOST_CALLS = 400;
    private static final int LOW = Integer.MIN_VALUE, HIGH = Integer.MAX_VALUE;
    private static final int[] MACHINE = {LOW, -1, 0, 1, 2, 3, 4, HIGH};
    private static final int[] JOB = {LOW, -1, 0, 1, 2, 3, 4, 5, 6, HIGH};
    private static final int[] STEP = {LOW, -1, 0, 1, 2, 3, 4, 5, HIGH};
    private static final int[] KIND = {LOW, -1, 0, 3, 4, HIGH};
    private static final int[] WORKER = {LOW, -1, 0, 5, 6, HIGH};
    private static final int[] SET = {LOW, -1, 0, 1, 2, 4, 8, 14, 15, 16, HIGH};
    private static final int[] CLOSED = {LOW, LOW + 1, -1, 0, 1, 2, 30, 1999, 2000, 2001, HIGH - 1, HIGH};
    private static final int[] LIFE = {LOW, -50, -1, 0, 1, 49, 50, 51, 300, 301, HIGH};
    private static final int[] BETWEEN = {LOW, -1, 0, 1, 20, 21, HIGH};
    private static final int[] RELEASED = {LOW, -1, 0, 200, 201, HIGH};
    private static final int[] DUE = {LOW, -1, 0, 1000, 1001, HIGH};
    private static final int[] WEIGHT = {LOW, 0, 1, 9, 10, HIGH};
    private static final int[] HOURS = {LOW, -1, 0, 1, 50, 51, HIGH};
    private static final int[] RULE = {LOW, -1, 0, 1, 2, 3, 4, 5, 6, 7, 8, HIGH};
    private static final int[] AIM = {LOW, -1, 0, 1, 2, 3, 4, 5, HIGH};
    private static final int[] PLACE = {LOW, -1, 0, 1, 2, 3, 4, 5, 6, 29, 30, HIGH - 1, HIGH};
    private static final int[] WHAT = {LOW, -1, 0, 1, 2, 3, 4, 5, 6, HIGH};
    private static final int[] ASKED = {LOW, -1, 0, 1, 7, 12, 19, 4999, 5000, 5001, HIGH};
    private static final int[] TWICE = {LOW, -1, 0, 1, 500, 999, 1000, 1001, HIGH};
    private static final int[] ODDS = {LOW, -1, 0, 1, 2, 500, 999, 1000, 1001, HIGH};
    private static final String[] STATES = {
        "",
        "tell(112233)",
        "plan(0) setSetup(0,1,2)",
        "addJob(0,0,1,0) addJob(0,12,9,3) addJob(20,40,5,1) addStep(0,3,1) addStep(0,3,1) addStep(0,3,1) addStep(5,0,50) close(0,1,2) close(0,1,2) close(0,5,9) close(0,0,3) setTool(0,50,20) plan(3)",
        "addStep(0,3,2) addJob(200,0,2,3) addStep(3,1,50) setSetup(0,2,7) setSetup(3,3,20) close(1,2,9) setWorker(0,15) setWorker(3,1) setWorker(5,6) best(4)",
        "cut(0) cut(1) cut(1) setWorker(1,9) setWorker(0,2) plan(6) rush(2) swap(0,0)",
        "setWorker(0,1) setWorker(0,2) setWorker(0,3) setWorker(0,4) setWorker(0,5) setWorker(0,6) setWorker(0,7) plan(1) tell(332211) undo()",
    };

    private static int wrong = 0;
    private static int looked = 0;

    public static void main(String[] args) {
        Map<String, int[][]> changes = changes();
        Map<String, int[][]> questions = questions();
        if (changes.size() + questions.size() != 44 - 1) {
            wrong++;
            System.out.println("some calls are not looked at");
        }
        for (String state : STATES) {
            for (Map.Entry<String, int[][]> change : changes.entrySet()) sweepChange(state, change.getKey(), change.getValue());
            sweepQuestions(state, questions);
            sweepRows(state);
        }
        System.out.println(wrong == 0 ? looked + " calls at the edges are answered as the model does" : wrong + " differences");
        if (wrong != 0) {
            System.exit(1);
        }
    }

    private static Map<String, int[][]> changes() {
        Map<String, int[][]> calls = new TreeMap<>();
        calls.put("close", new int[][] {MACHINE, CLOSED, CLOSED});
        calls.put("setTool", new int[][] {MACHINE, LIFE, BETWEEN});
        calls.put("setSetup", new int[][] {KIND, KIND, BETWEEN});
        calls.put("addJob", new int[][] {RELEASED, DUE, WEIGHT, KIND});
        calls.put("addStep", new int[][] {JOB, MACHINE, HOURS});
        calls.put("cut", new int[][] {JOB});
        calls.put("plan", new int[][] {RULE});
        calls.put("best", new int[][] {AIM});
        calls.put("swap", new int[][] {MACHINE, PLACE});
        calls.put("replan", new int[][] {RULE, CLOSED});
        calls.put("rush", new int[][] {JOB});
        calls.put("setWorker", new int[][] {WORKER, SET});
        calls.put("undo", new int[0][]);
        return calls;
    }

    private static Map<String, int[][]> questions() {
        Map<String, int[][]> calls = new TreeMap<>();
        for (String name : new String[] {"jobs", "bound", "wayLength", "blocks", "longestBlock", "leastSum", "leastLateness", "fewestLate", "leastEnd", "leastSetup", "meanEnd", "errors"}) calls.put(name, new int[0][]);
        calls.put("jobAt", new int[][] {JOB, WHAT});
        calls.put("stepAt", new int[][] {JOB, STEP, WHAT});
        calls.put("begin", new int[][] {JOB, STEP});
        calls.put("endOf", new int[][] {JOB});
        calls.put("value", new int[][] {AIM});
        calls.put("orderAt", new int[][] {MACHINE, PLACE});
        calls.put("doneIn", new int[][] {MACHINE, ASKED});
        calls.put("wayAt", new int[][] {PLACE});
        calls.put("slack", new int[][] {JOB, STEP});
        calls.put("delay", new int[][] {JOB, JOB});
        calls.put("isDropped", new int[][] {JOB});
        calls.put("twoAt", new int[][] {PLACE});
        calls.put("setupAt", new int[][] {PLACE});
        calls.put("match", new int[][] {SET});
        calls.put("workerOf", new int[][] {SET, MACHINE});
        calls.put("promise", new int[][] {JOB, TWICE, ODDS});
        calls.put("worked", new int[][] {ASKED, WHAT});
        calls.put("use", new int[][] {MACHINE});
        return calls;
    }

    /** All rows of one number of each kind. */
    private static List<Object[]> combinations(int[][] edges) {
        List<Object[]> rows = new ArrayList<>();
        rows.add(new Object[0]);
        for (int[] kind : edges) {
            List<Object[]> longer = new ArrayList<>();
            for (Object[] row : rows) {
                for (int number : kind) {
                    Object[] more = Arrays.copyOf(row, row.length + 1);
                    more[row.length] = number;
                    longer.add(more);
                }
            }
            rows = longer;
        }
        return rows;
    }

    private static JobWorkshop real(String state) {
        JobWorkshop x = new JobWorkshop();
        for (String call : state.split(" ")) if (!call.isEmpty()) REAL.answer(x, call);
        return x;
    }

    private static ShopModel model(String state) {
        ShopModel x = new ShopModel();
        for (String call : state.split(" ")) if (!call.isEmpty()) MODEL.answer(x, call);
        return x;
    }

    private static ShopModel copy(ShopModel model) {
        ShopModel copy = new ShopModel();
        copy.take(model);
        copy.past.addAll(model.past);
        return copy;
    }

    private static boolean same(String state, String call, Object[] numbers, Object got, Object due) {
        looked++;
        if (got.equals(due)) {
            return true;
        }
        wrong++;
        System.out.println("behind [" + state + "] " + call + Arrays.toString(numbers) + " answered " + got + ", the model " + due);
        return false;
    }

    private static void sweepChange(String state, String name, int[][] edges) {
        ShopModel start = model(state);
        for (Object[] numbers : combinations(edges)) {
            change(state, name, numbers, real(state), copy(start));
        }
    }

    private static void change(String state, String name, Object[] numbers, JobWorkshop x, ShopModel model) {
        Object due = MODEL.ask(model, name, numbers);
        if (same(state, name, numbers, REAL.ask(x, name, numbers), due)) {
            String behind = state + " " + name + Arrays.toString(numbers);
            same(behind, "jobs", new Object[0], x.jobs(), model.jobs());
            same(behind, "value", new Object[] {1}, REAL.ask(x, "value", 1), MODEL.ask(model, "value", 1));
            same(behind, "wayLength", new Object[0], REAL.ask(x, "wayLength"), MODEL.ask(model, "wayLength"));
            same(behind, "undo", new Object[0], x.undo(), model.undo());
            same(behind + " undo", "value", new Object[] {1}, REAL.ask(x, "value", 1), MODEL.ask(model, "value", 1));
        }
    }

    private static void sweepQuestions(String state, Map<String, int[][]> questions) {
        ShopModel model = model(state);
        JobWorkshop x = real(state);
        int calls = 0;
        for (Map.Entry<String, int[][]> question : questions.entrySet()) {
            for (Object[] numbers : combinations(question.getValue())) {
                if (calls == MOST_CALLS) {
                    x = real(state);
                    calls = 0;
                }
                calls++;
                same(state, question.getKey(), numbers, REAL.ask(x, question.getKey(), numbers), MODEL.ask(model, question.getKey(), numbers));
            }
        }
    }

    /** Rows that tell a plan, or miss one by a digit. */
    private static void sweepRows(String state) {
        ShopModel start = model(state);
        StringBuilder full = new StringBuilder();
        for (int job = 0; job < start.jobs(); job++) {
            for (int step = 0; step < start.jobAt(job, 4); step++) full.insert(full.length() / 2, job + 1);
        }
        List<Long> rows = new ArrayList<>(List.of(Long.MIN_VALUE, Long.MIN_VALUE + 1, -1L, 0L, 1L, 4294967296L, Long.MAX_VALUE - 1, Long.MAX_VALUE));
        rows.add(Long.parseLong(full.toString()));
        rows.add(-Long.parseLong(full.toString()));
        for (int place = 0; place <= full.length(); place++) {
            for (char digit = '0'; digit <= '9'; digit++) {
                rows.add(Long.parseLong(new StringBuilder(full).insert(place, digit).toString()));
                if (place < full.length()) {
                    StringBuilder other = new StringBuilder(full);
                    other.setCharAt(place, digit);
                    rows.add(Long.parseLong(other.toString()));
                }
            }
            if (place < full.length()) rows.add(Long.parseLong(new StringBuilder(full).deleteCharAt(place).toString()));
        }
        for (long row : rows) change(state, "tell", new Object[] {row}, real(state), copy(start));
    }
}
