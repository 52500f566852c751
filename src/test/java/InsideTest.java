import java.lang.reflect.Field;
import java.util.Arrays;

/**
 * The sentences on what no calls lead to, so that it is put into the object's own fields: a workshop without jobs, or with
 * jobs that have no steps (the three first jobs keep theirs), and a plan with faults, which errors() would find.
 */
public final class InsideTest {
    private static final Calls CALLS = new Calls(JobWorkshop.class);
    private static final Class<?> INDEX = IndexOutOfBoundsException.class;
    private static final Class<?> STATE = IllegalStateException.class;
    private static int wrong = 0;
    private static String sentence = "";
    private static JobWorkshop x;

    public static void main(String[] args) throws ReflectiveOperationException {
        withoutJobs();
        withoutSteps();
        onTime();
        overlaps();
        closedHours();
        endsTooEarly();
        System.out.println(wrong == 0 ? "the cases that no calls lead to hold" : wrong + " answers are not as due");
        if (wrong != 0) {
            System.exit(1);
        }
    }

    private static void due(String call, Object want) {
        Object got = CALLS.answer(x, call);
        if (!want.equals(got)) {
            wrong++;
            System.out.println("promise " + sentence + ": " + call + " answered " + got + ", due is " + want);
        }
    }

    private static Object field(Object it, String name) throws ReflectiveOperationException {
        Field field = it.getClass().getDeclaredField(name);
        field.setAccessible(true);
        return field.get(it);
    }

    private static void startWithoutJobs(String told) throws ReflectiveOperationException {
        sentence = told;
        x = new JobWorkshop();
        Object shop = field(x, "shop");
        Field jobs = shop.getClass().getDeclaredField("jobs");
        jobs.setAccessible(true);
        jobs.setInt(shop, 0);
    }

    private static void startWithoutSteps(String told) throws ReflectiveOperationException {
        sentence = told;
        x = new JobWorkshop();
        Arrays.fill((int[]) field(field(x, "shop"), "steps"), 0);
    }

    private static void withoutJobs() throws ReflectiveOperationException {
        startWithoutJobs("9: 0 for an empty row; section 2: the end of a plan is 0 without jobs");
        due("tell(0)", 0);
        due("value(0)", 0);
        due("tell(1)", IllegalArgumentException.class);
        due("tell(-1)", IllegalArgumentException.class);
        due("tell(LOW)", IllegalArgumentException.class);
        startWithoutJobs("8, 12: the end of a plan is 0 without jobs");
        for (int rule = 0; rule < 8; rule++) {
            due("plan(" + rule + ")", 0);
            due("replan(" + rule + ",2000)", 0);
        }
        startWithoutJobs("10, 21, section 4: LATENESS, the greatest lateness of all jobs (0 without jobs)");
        for (int aim = 0; aim < 5; aim++) {
            due("best(" + aim + ")", 0);
            due("value(" + aim + ")", 0);
        }
        startWithoutJobs("32: 0 without jobs; 31, 33, 35, 37: sums and numbers of none");
        for (String call : new String[] {"leastLateness()", "leastSum()", "fewestLate()", "leastEnd()", "leastSetup()", "bound()"}) due(call, 0);
        due("twoAt(0)", INDEX);
        due("setupAt(0)", INDEX);
        due("isDropped(0)", INDEX);
        startWithoutJobs("43: 0 if there are no jobs");
        due("meanEnd()", STATE);
        due("tell(0)", 0);
        due("meanEnd()", 0.0);
        startWithoutJobs("44: 0.0f if the end of the plan is 0");
        due("use(0)", STATE);
        due("tell(0)", 0);
        due("use(0)", 0.0f);
        due("errors()", 0);
        due("worked(5000,0)", 0);
        due("doneIn(0,0)", -1);
    }

    private static void withoutSteps() throws ReflectiveOperationException {
        startWithoutSteps("9: 0 for an empty row");
        due("tell(0)", 0);
        due("undo()", 0);
        startWithoutSteps("25: 0 for a plan without steps");
        due("wayLength()", STATE);
        due("tell(0)", 0);
        due("wayLength()", 0);
        startWithoutSteps("26: no place in a way without steps");
        due("tell(0)", 0);
        due("wayAt(0)", INDEX);
        due("wayAt(-1)", INDEX);
        startWithoutSteps("27: no block in a plan without steps");
        due("tell(0)", 0);
        due("blocks()", 0);
        startWithoutSteps("28: 0 for a plan without steps");
        due("tell(0)", 0);
        due("longestBlock()", 0);
        startWithoutSteps("44: 0.0f if the end of the plan is 0");
        due("tell(0)", 0);
        for (int machine = 0; machine < 4; machine++) due("use(" + machine + ")", 0.0f);
        startWithoutSteps("20, section 2: the end of a job without steps is its release");
        due("plan(0)", 0);
        due("endOf(0)", 0);
        due("addJob(30,0,1,0)", 3);
        due("best(1)", 30);
        due("endOf(3)", 30);
        due("meanEnd()", 7.5);
        due("use(0)", 0.0f);
        due("slack(0,0)", INDEX);
        due("delay(3,0)", 0);
    }

    private static void onTime() throws ReflectiveOperationException {
        startWithoutSteps("32: the lateness, which can be below 0");
        due("leastLateness()", -9);
        due("fewestLate()", 0);
        startWithoutSteps("21, section 4: the greatest lateness below 0, no late job, no tardiness");
        due("tell(0)", 0);
        due("value(2)", -9);
        due("value(3)", 0);
        due("value(4)", 0);
        startWithoutSteps("10, section 4: the best lateness below 0");
        due("best(2)", -9);
        due("best(3)", 0);
        due("best(4)", 0);
    }

    /** The plan of the rule SHORTEST: on machine 0 the jobs 0, 2, 1 from 0, 3, 7 on, on machine 1 the jobs 1, 0 from 0, 3 on, on machine 2 job 2 from 7 on. */
    private static void startPlanned(String told) {
        sentence = told;
        x = new JobWorkshop();
        due("plan(0)", 12);
        due("errors()", 0);
    }

    private static void begins(int job, int step, int hour) throws ReflectiveOperationException {
        ((int[]) field(field(x, "table"), "begin"))[5 * job + step] = hour;
    }

    private static void closes(int machine, int closure, int from, int to) throws ReflectiveOperationException {
        Object shop = field(x, "shop");
        ((int[]) field(shop, "closures"))[machine] = closure + 1;
        ((int[]) field(shop, "closedFrom"))[4 * machine + closure] = from;
        ((int[]) field(shop, "closedTo"))[4 * machine + closure] = to;
    }

    private static void overlaps() throws ReflectiveOperationException {
        startPlanned("45: the number of hours in which two steps are done on one machine");
        begins(2, 0, 2);
        due("errors()", 1);
        begins(2, 0, 0);
        due("errors()", 3);
        startPlanned("45: the number of hours in which two steps of one job are done");
        begins(0, 1, 2);
        due("errors()", 1);
        begins(0, 1, 0);
        due("errors()", 3);
        startPlanned("45: an hour with several faults is one hour");
        begins(1, 1, 2);
        begins(2, 0, 2);
        begins(2, 1, 11);
        closes(0, 0, 2, 3);
        due("errors()", 4);
    }

    private static void closedHours() throws ReflectiveOperationException {
        startPlanned("45: the number of hours in which a step is done in a closure");
        closes(0, 0, 0, 1);
        due("errors()", 1);
        closes(0, 0, 11, 12);
        due("errors()", 1);
        closes(0, 1, 6, 8);
        due("errors()", 3);
        closes(0, 2, 12, 2000);
        due("errors()", 3);
        closes(3, 0, 0, 2000);
        due("errors()", 3);
        closes(2, 0, 7, 8);
        due("errors()", 3);
        closes(1, 0, 0, 1);
        due("errors()", 4);
        due("undo()", 0);
        due("errors()", 0);
    }

    private static void endsTooEarly() throws ReflectiveOperationException {
        sentence = "45: plus 1 if the end is less than bound()";
        x = new JobWorkshop();
        due("addJob(20,0,1,0)", 3);
        due("addStep(3,3,5)", 0);
        due("plan(0)", 25);
        due("bound()", 25);
        due("errors()", 0);
        begins(3, 0, 19);
        due("errors()", 1);
        begins(3, 0, 21);
        due("errors()", 0);
    }
}
