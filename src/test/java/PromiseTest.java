import java.util.Objects;
import java.util.function.Supplier;

/** For each promise of the document: ordinary inputs, its edges, and wrong inputs; the answers are worked out by hand. */
public final class PromiseTest {
    private static final Class<?> INDEX = IndexOutOfBoundsException.class;
    private static final Class<?> ARGUMENT = IllegalArgumentException.class;
    private static final Class<?> STATE = IllegalStateException.class;
    private static final int NONE = JobWorkshop.NONE;
    private static final int LOW = Integer.MIN_VALUE;
    private static final int HIGH = Integer.MAX_VALUE;
    private static int wrong = 0;
    private static String promise = "";
    private static JobWorkshop x;

    public static void main(String[] args) {
        newObject();
        close();
        setTool();
        setSetup();
        addJob();
        addStep();
        cut();
        planRange();
        planByEachRule();
        planTies();
        tell();
        best();
        swap();
        replan();
        rush();
        setWorker();
        undo();
        jobsAndSteps();
        beginAndEnd();
        value();
        bound();
        orderAt();
        doneIn();
        way();
        slack();
        delay();
        oneMachine();
        twoMachines();
        setupTour();
        match();
        promiseWithOdds();
        worked();
        measures();
        errors();
        throwingChangesNothing();
        System.out.println(wrong == 0 ? "all promises hold" : wrong + " answers are not as due");
        if (wrong != 0) {
            System.exit(1);
        }
    }

    private static void start(String numbers) {
        promise = numbers;
        x = new JobWorkshop();
    }

    /** A new object with the plan 112233: on machine 0 the jobs 0, 1, 2 from 0, 9 and 14 on, on machine 1 the jobs 0, 1 from 3 and 7 on. */
    private static void startTold(String numbers) {
        start(numbers);
        due(19, () -> x.tell(112233));
    }

    private static void due(Object want, Supplier<Object> call) {
        Object got;
        try {
            got = call.get();
        } catch (RuntimeException e) {
            got = e.getClass();
        }
        if (!Objects.equals(got, want)) {
            wrong++;
            StackTraceElement at = new Throwable().getStackTrace()[1];
            System.out.println("promise " + promise + ", line " + at.getLineNumber() + ": answered " + got + ", due is " + want);
        }
    }

    private static void dueBegins(int... begins) {
        for (int i = 0; i + 2 < begins.length; i += 3) {
            int job = begins[i], step = begins[i + 1];
            due(begins[i + 2], () -> x.begin(job, step));
        }
    }

    private static void dueOrder(int machine, int... order) {
        for (int place = 0; place < order.length; place++) {
            int at = place;
            due(order[place], () -> x.orderAt(machine, at));
        }
        due(INDEX, () -> x.orderAt(machine, order.length));
    }

    // ---- Changes

    private static void newObject() {
        start("1");
        due(3, () -> x.jobs());
        int[][] jobs = {{0, 12, 1, 0, 2, 7}, {0, 9, 1, 1, 2, 7}, {0, 10, 1, 2, 2, 5}};
        for (int job = 0; job < 3; job++) {
            for (int what = 0; what < 6; what++) {
                int number = job, asked = what;
                due(jobs[job][what], () -> x.jobAt(number, asked));
            }
        }
        int[][] steps = {{0, 0, 0, 3}, {0, 1, 1, 4}, {1, 0, 1, 2}, {1, 1, 0, 5}, {2, 0, 0, 4}, {2, 1, 2, 1}};
        for (int[] step : steps) {
            due(step[2], () -> x.stepAt(step[0], step[1], 0));
            due(step[3], () -> x.stepAt(step[0], step[1], 1));
        }
        due(0, () -> x.match(15));
        due(NONE, () -> x.undo());
        due(STATE, () -> x.value(0));
        for (int machine = 0; machine < 4; machine++) {
            int number = machine;
            due(0, () -> x.setTool(number, 0, 0));
            due(1, () -> x.close(number, 0, 1));
        }
        for (int worker = 0; worker < 6; worker++) {
            int number = worker;
            due(0, () -> x.setWorker(number, 15));
        }
        for (int pair = 0; pair < 16; pair++) {
            int from = pair / 4, to = pair % 4;
            due(0, () -> x.setSetup(from, to, 1));
        }
    }

    private static void close() {
        start("2");
        due(INDEX, () -> x.close(-1, 0, 1));
        due(INDEX, () -> x.close(4, -1, -1));
        due(INDEX, () -> x.close(HIGH, 0, 1));
        due(ARGUMENT, () -> x.close(0, -1, 1));
        due(ARGUMENT, () -> x.close(0, 2000, 2000));
        due(ARGUMENT, () -> x.close(0, 2001, 2002));
        due(ARGUMENT, () -> x.close(0, 5, 5));
        due(ARGUMENT, () -> x.close(0, 5, 4));
        due(ARGUMENT, () -> x.close(0, 5, 2001));
        due(ARGUMENT, () -> x.close(0, HIGH, LOW));
        due(ARGUMENT, () -> x.close(0, LOW, HIGH));
        due(1, () -> x.close(3, 0, 2000));
        due(1, () -> x.close(0, 0, 1));
        due(2, () -> x.close(0, 1999, 2000));
        due(3, () -> x.close(0, 1999, 2000));
        due(4, () -> x.close(0, 0, 2000));
        due(STATE, () -> x.close(0, 0, 1));
        due(ARGUMENT, () -> x.close(0, 1, 1));
        due(1, () -> x.close(1, 0, 1));

        // The plan keeps its orders; a step may end when a closure begins, and begin when it ends.
        startTold("2");
        due(1, () -> x.close(0, 3, 9));
        dueBegins(0, 0, 0, 1, 1, 9);
        due(19, () -> x.value(0));
        due(2, () -> x.close(0, 2, 3));
        dueBegins(0, 0, 9, 0, 1, 12, 1, 0, 16, 1, 1, 18, 2, 0, 23, 2, 1, 27);
        dueOrder(0, 0, 11, 20);
        due(28, () -> x.value(0));
        due(3, () -> x.close(0, 12, 18));
        due(28, () -> x.value(0));
        due(3, () -> x.undo());
        due(28, () -> x.value(0));
        due(2, () -> x.undo());
        due(19, () -> x.value(0));

        // Closures that are told from the last to the first are all passed.
        startTold("2");
        due(1, () -> x.close(0, 8, 10));
        due(2, () -> x.close(0, 5, 7));
        due(3, () -> x.close(0, 1, 3));
        dueBegins(0, 0, 10);
        due(4, () -> x.close(0, 12, 1000));
        dueBegins(0, 0, 1000);
    }

    private static void setTool() {
        start("3");
        due(INDEX, () -> x.setTool(-1, 1, 1));
        due(INDEX, () -> x.setTool(4, 0, 0));
        due(ARGUMENT, () -> x.setTool(0, 49, 0));
        due(ARGUMENT, () -> x.setTool(0, 1, 0));
        due(ARGUMENT, () -> x.setTool(0, -1, 0));
        due(ARGUMENT, () -> x.setTool(0, 301, 0));
        due(ARGUMENT, () -> x.setTool(0, 0, -1));
        due(ARGUMENT, () -> x.setTool(0, 0, 21));
        due(ARGUMENT, () -> x.setTool(0, LOW, HIGH));
        due(0, () -> x.setTool(0, 50, 0));
        due(50, () -> x.setTool(0, 300, 20));
        due(300, () -> x.setTool(0, 0, 20));
        due(0, () -> x.setTool(0, 0, 0));

        // 30 and 20 use a life of 50 up, but are not above it; with the next 30 they are, and with the last hour again.
        start("3");
        due(3, () -> x.addJob(0, 1000, 1, 0));
        for (int hours : new int[] {30, 20, 30, 20, 1}) x.addStep(3, 3, hours);
        due(101, () -> x.plan(0));
        due(0, () -> x.setTool(3, 50, 7));
        dueBegins(3, 0, 0, 3, 1, 30, 3, 2, 57, 3, 3, 87, 3, 4, 114);
        due(115, () -> x.value(0));
        due(50, () -> x.setTool(3, 80, 7));
        // 80 are not above 80; 30 + 20 + 30 + 20 are.
        dueBegins(3, 2, 50, 3, 3, 87, 3, 4, 107);
        due(80, () -> x.setTool(3, 0, 20));
        due(101, () -> x.value(0));
    }

    private static void setSetup() {
        start("4");
        due(INDEX, () -> x.setSetup(-1, 0, 0));
        due(INDEX, () -> x.setSetup(0, -1, 0));
        due(INDEX, () -> x.setSetup(4, 0, 21));
        due(INDEX, () -> x.setSetup(0, 4, -1));
        due(ARGUMENT, () -> x.setSetup(0, 0, -1));
        due(ARGUMENT, () -> x.setSetup(0, 0, 21));
        due(ARGUMENT, () -> x.setSetup(3, 3, HIGH));
        due(0, () -> x.setSetup(3, 3, 20));
        due(20, () -> x.setSetup(3, 3, 0));
        due(0, () -> x.setSetup(0, 1, 5));
        due(0, () -> x.setSetup(1, 0, 20));
        // Only the set-up from kind 0 to kind 1 is met: on machine 1 it ends at 12.
        due(24, () -> x.tell(112233));
        dueBegins(0, 1, 3, 1, 0, 12, 1, 1, 14);
        due(0, () -> x.setSetup(1, 2, 20));
        due(STATE, () -> x.value(0));
        due(44, () -> x.tell(112233));
        due(20, () -> x.setSetup(1, 2, 20));
        due(STATE, () -> x.value(0));
        // The same kind twice has a set-up too, and it comes on top of the change of the tool.
        start("4");
        due(3, () -> x.addJob(0, 0, 1, 3));
        due(0, () -> x.addStep(3, 3, 30));
        due(1, () -> x.addStep(3, 3, 30));
        due(0, () -> x.setSetup(3, 3, 4));
        due(64, () -> x.plan(0));
        due(0, () -> x.setTool(3, 50, 7));
        dueBegins(3, 1, 41);
    }

    private static void addJob() {
        start("5");
        due(INDEX, () -> x.addJob(-1, -1, 0, -1));
        due(INDEX, () -> x.addJob(0, 0, 1, 4));
        due(ARGUMENT, () -> x.addJob(-1, 0, 1, 0));
        due(ARGUMENT, () -> x.addJob(201, 0, 1, 0));
        due(ARGUMENT, () -> x.addJob(0, -1, 1, 0));
        due(ARGUMENT, () -> x.addJob(0, 1001, 1, 0));
        due(ARGUMENT, () -> x.addJob(0, 0, 0, 0));
        due(ARGUMENT, () -> x.addJob(0, 0, 10, 0));
        due(12, () -> x.plan(0));
        due(3, () -> x.addJob(200, 1000, 9, 3));
        due(STATE, () -> x.value(0));
        due(200, () -> x.jobAt(3, 0));
        due(1000, () -> x.jobAt(3, 1));
        due(9, () -> x.jobAt(3, 2));
        due(3, () -> x.jobAt(3, 3));
        due(0, () -> x.jobAt(3, 4));
        due(0, () -> x.jobAt(3, 5));
        due(200, () -> x.plan(0));
        due(200, () -> x.endOf(3));
        due(4, () -> x.addJob(0, 0, 1, 0));
        due(5, () -> x.addJob(0, 0, 1, 0));
        due(6, () -> x.jobs());
        due(STATE, () -> x.addJob(0, 0, 1, 0));
        due(ARGUMENT, () -> x.addJob(0, 0, 10, 0));
        due(INDEX, () -> x.addJob(0, 0, 10, 4));
        // Nothing of a job that was undone is left for the next one.
        start("5");
        due(3, () -> x.addJob(0, 0, 1, 0));
        due(0, () -> x.addStep(3, 3, 9));
        due(1, () -> x.undo());
        due(0, () -> x.undo());
        due(3, () -> x.addJob(0, 0, 1, 0));
        due(0, () -> x.jobAt(3, 4));
    }

    private static void addStep() {
        start("6");
        due(INDEX, () -> x.addStep(-1, 0, 1));
        due(INDEX, () -> x.addStep(3, 0, 0));
        due(INDEX, () -> x.addStep(0, -1, 1));
        due(INDEX, () -> x.addStep(0, 4, 51));
        due(ARGUMENT, () -> x.addStep(0, 0, 0));
        due(ARGUMENT, () -> x.addStep(0, 0, 51));
        due(12, () -> x.plan(0));
        due(2, () -> x.addStep(0, 3, 50));
        due(STATE, () -> x.value(0));
        due(3, () -> x.stepAt(0, 2, 0));
        due(50, () -> x.stepAt(0, 2, 1));
        due(57, () -> x.jobAt(0, 5));
        due(3, () -> x.addStep(0, 0, 1));
        due(4, () -> x.addStep(0, 0, 1));
        due(STATE, () -> x.addStep(0, 0, 1));
        due(ARGUMENT, () -> x.addStep(0, 0, 51));
        due(2, () -> x.addStep(1, 0, 1));
    }

    private static void cut() {
        start("7");
        due(INDEX, () -> x.cut(-1));
        due(INDEX, () -> x.cut(3));
        due(STATE, () -> x.cut(2));
        due(12, () -> x.plan(0));
        due(3, () -> x.cut(0));
        due(STATE, () -> x.value(0));
        int[] lot = {0, 12, 1, 0, 2, 3};
        for (int what = 0; what < 6; what++) {
            int asked = what;
            due(lot[what], () -> x.jobAt(3, asked));
        }
        due(1, () -> x.stepAt(3, 0, 1));
        due(2, () -> x.stepAt(3, 1, 1));
        due(0, () -> x.stepAt(3, 0, 0));
        due(1, () -> x.stepAt(3, 1, 0));
        due(2, () -> x.stepAt(0, 0, 1));
        due(2, () -> x.stepAt(0, 1, 1));
        due(STATE, () -> x.cut(3));
        due(4, () -> x.addJob(7, 70, 7, 1));
        due(STATE, () -> x.cut(4));
        due(0, () -> x.addStep(4, 3, 50));
        due(5, () -> x.cut(4));
        due(7, () -> x.jobAt(5, 0));
        due(70, () -> x.jobAt(5, 1));
        due(7, () -> x.jobAt(5, 2));
        due(1, () -> x.jobAt(5, 3));
        due(25, () -> x.jobAt(5, 5));
        due(STATE, () -> x.cut(1));
        due(INDEX, () -> x.cut(6));
    }

    private static void planRange() {
        start("8");
        due(ARGUMENT, () -> x.plan(-1));
        due(ARGUMENT, () -> x.plan(8));
        due(ARGUMENT, () -> x.plan(LOW));
        due(STATE, () -> x.value(0));
        due(12, () -> x.plan(JobWorkshop.SHORTEST));
        dueOrder(0, 0, 20, 11);
        dueOrder(1, 10, 1);
        dueOrder(2, 21);
        dueOrder(3);
    }

    /** Three jobs whose first steps can all begin at 100 on machine 3. */
    private static void threeOnOneMachine() {
        start("8");
        x.addJob(10, 100, 6, 0);
        x.addStep(3, 3, 10);
        x.addStep(3, 2, 5);
        x.addJob(15, 300, 7, 0);
        x.addStep(4, 3, 20);
        x.addJob(20, 120, 3, 0);
        x.addStep(5, 3, 8);
        x.addStep(5, 2, 40);
        x.close(3, 0, 100);
    }

    private static void planByEachRule() {
        int[][] orders = {{50, 30, 40}, {40, 30, 50}, {30, 50, 40}, {40, 30, 50}, {50, 40, 30}, {50, 30, 40}, {30, 50, 40}, {30, 40, 50}};
        for (int rule = 0; rule < 8; rule++) {
            int asked = rule;
            threeOnOneMachine();
            promise = "8, rule " + rule;
            due(true, () -> x.plan(asked) > 100);
            dueOrder(3, orders[rule]);
        }
        // SHORTEST, SLACK and RATIO once more, where they do not agree.
        start("8");
        x.addJob(0, 200, 1, 0);
        x.addStep(3, 3, 4);
        x.addJob(0, 210, 3, 0);
        x.addStep(4, 3, 7);
        x.addStep(4, 3, 50);
        x.addJob(0, 220, 2, 0);
        x.addStep(5, 3, 5);
        due(true, () -> x.plan(JobWorkshop.SHORTEST) > 0);
        due(30, () -> x.orderAt(3, 0));
        due(true, () -> x.plan(JobWorkshop.RATIO) > 0);
        dueOrder(3, 40, 50, 30, 41);
        // 210 less 57, then 210 less 50, are less than 200 less 4; of its hours all that are left count.
        due(true, () -> x.plan(JobWorkshop.SLACK) > 0);
        dueOrder(3, 40, 41, 30, 50);
    }

    private static void planTies() {
        // Jobs that are alike in all are taken by their numbers.
        for (int rule = 0; rule < 8; rule++) {
            int asked = rule;
            start("8, rule " + rule);
            for (int job = 3; job < 6; job++) {
                x.addJob(2, 40, 5, 0);
                x.addStep(job, 3, 6);
            }
            due(20, () -> x.plan(asked));
            dueOrder(3, 30, 40, 50);
        }
        // 3 / 9 and 2 / 6 are equal, 1 / 4 is less: a quotient is not rounded.
        start("8");
        x.addJob(0, 0, 1, 0);
        x.addStep(3, 3, 4);
        x.addJob(0, 0, 3, 0);
        x.addStep(4, 3, 9);
        x.addJob(0, 0, 2, 0);
        x.addStep(5, 3, 6);
        due(true, () -> x.plan(JobWorkshop.RATIO) > 0);
        dueOrder(3, 40, 50, 30);
        // The hour goes ahead of the rule: a later release stands back, and so does a set-up.
        start("8");
        x.addJob(1, 0, 9, 3);
        x.addStep(3, 3, 1);
        x.addJob(0, 1000, 1, 0);
        x.addStep(4, 3, 50);
        x.addJob(0, 1000, 1, 0);
        x.addStep(5, 3, 40);
        x.setSetup(0, 3, 1);
        due(true, () -> x.plan(JobWorkshop.HEAVY) > 0);
        dueOrder(3, 40, 50, 30);
        due(91, () -> x.begin(3, 0));
    }

    private static void tell() {
        start("9");
        due(ARGUMENT, () -> x.tell(-1));
        due(ARGUMENT, () -> x.tell(Long.MIN_VALUE));
        due(ARGUMENT, () -> x.tell(Long.MAX_VALUE));
        due(ARGUMENT, () -> x.tell(0));
        due(ARGUMENT, () -> x.tell(11223));
        due(ARGUMENT, () -> x.tell(1122334));
        due(ARGUMENT, () -> x.tell(1122330));
        due(ARGUMENT, () -> x.tell(112033));
        due(ARGUMENT, () -> x.tell(112223));
        due(ARGUMENT, () -> x.tell(1122333));
        due(ARGUMENT, () -> x.tell(9112233));
        due(STATE, () -> x.value(0));
        due(19, () -> x.tell(112233));
        dueBegins(0, 0, 0, 0, 1, 3, 1, 0, 7, 1, 1, 9, 2, 0, 14, 2, 1, 18);
        // Job 2 from 0 and 4 on, job 1 from 0 to 2 and from 4 to 9, job 0 from 9 to 12 and from 12 to 16.
        due(16, () -> x.tell(332211));
        dueBegins(2, 0, 0, 2, 1, 4, 1, 0, 0, 1, 1, 4, 0, 0, 9, 0, 1, 12);
    }

    private static void best() {
        start("10");
        due(ARGUMENT, () -> x.best(-1));
        due(ARGUMENT, () -> x.best(5));
        due(12, () -> x.best(JobWorkshop.END));
        dueOrder(0, 0, 20, 11);
        due(27, () -> x.best(JobWorkshop.SUM));
        due(3, () -> x.best(JobWorkshop.LATENESS));
        dueOrder(0, 0, 11, 20);
        due(1, () -> x.best(JobWorkshop.COUNT));
        due(3, () -> x.best(JobWorkshop.TARDINESS));
        due(2, () -> x.addStep(0, 3, 1));
        due(3, () -> x.addStep(0, 3, 1));
        due(12, () -> x.best(JobWorkshop.END));
        dueOrder(3, 2, 3);
        due(4, () -> x.addStep(0, 3, 1));
        due(STATE, () -> x.best(JobWorkshop.END));
        due(ARGUMENT, () -> x.best(5));
        // A heavy job goes ahead: late it costs 9 an hour.
        start("10");
        x.addJob(0, 5, 9, 0);
        x.addStep(3, 0, 5);
        due(true, () -> x.best(JobWorkshop.TARDINESS) < 45);
        due(30, () -> x.orderAt(0, 0));
    }

    private static void swap() {
        start("11");
        due(INDEX, () -> x.swap(0, 0));
        due(INDEX, () -> x.swap(-1, 0));
        startTold("11");
        due(INDEX, () -> x.swap(4, 0));
        due(INDEX, () -> x.swap(0, -1));
        due(INDEX, () -> x.swap(0, 2));
        due(INDEX, () -> x.swap(0, HIGH));
        due(INDEX, () -> x.swap(0, LOW));
        due(INDEX, () -> x.swap(2, 0));
        due(INDEX, () -> x.swap(3, 0));
        // Job 1 ahead of job 0 on machine 0, but behind it on machine 1: no row.
        due(STATE, () -> x.swap(0, 0));
        dueOrder(0, 0, 11, 20);
        due(14, () -> x.swap(0, 1));
        dueOrder(0, 0, 20, 11);
        dueBegins(2, 0, 3, 1, 1, 9);
        due(12, () -> x.swap(1, 0));
        dueOrder(1, 10, 1);
        due(2, () -> x.undo());
        dueOrder(1, 1, 10);
        // Two steps of one job.
        start("11");
        x.addJob(0, 0, 1, 0);
        x.addStep(3, 3, 1);
        x.addStep(3, 3, 1);
        due(12, () -> x.plan(0));
        due(STATE, () -> x.swap(3, 0));
    }

    private static void replan() {
        start("12");
        due(ARGUMENT, () -> x.replan(-1, 0));
        due(ARGUMENT, () -> x.replan(8, 0));
        due(ARGUMENT, () -> x.replan(0, -1));
        due(ARGUMENT, () -> x.replan(0, 2001));
        due(STATE, () -> x.replan(0, 0));
        startTold("12");
        due(12, () -> x.replan(JobWorkshop.SHORTEST, 3));
        dueBegins(0, 0, 0, 0, 1, 3, 1, 0, 0, 1, 1, 7, 2, 0, 3, 2, 1, 7);
        startTold("12");
        due(13, () -> x.replan(JobWorkshop.LONGEST, 3));
        dueOrder(0, 0, 11, 20);
        // The step of job 2 is put behind those that began by 9, and then begins ahead of 9.
        startTold("12");
        due(14, () -> x.replan(JobWorkshop.SHORTEST, 9));
        dueBegins(1, 0, 7, 2, 0, 3, 2, 1, 7, 1, 1, 9);
        startTold("12");
        due(19, () -> x.replan(JobWorkshop.SHORTEST, 2000));
        due(12, () -> x.replan(JobWorkshop.SHORTEST, 0));
        startTold("12");
        due(19, () -> x.replan(JobWorkshop.SHORTEST, 15));
        due(19, () -> x.replan(JobWorkshop.SHORTEST, 14));
        // The step that begins at 14 is kept from the hour 15 on.
        due(14, () -> x.replan(JobWorkshop.SHORTEST, 9));
        due(14, () -> x.replan(JobWorkshop.SHORTEST, 10));
    }

    private static void rush() {
        start("13");
        due(INDEX, () -> x.rush(-1));
        due(INDEX, () -> x.rush(3));
        due(STATE, () -> x.rush(0));
        startTold("13");
        due(18, () -> x.rush(2));
        dueOrder(0, 20, 0, 11);
        dueBegins(2, 0, 0, 2, 1, 4, 0, 0, 4, 0, 1, 7, 1, 0, 11, 1, 1, 13);
        due(1, () -> x.undo());
        due(15, () -> x.rush(1));
        dueOrder(0, 11, 0, 20);
        dueOrder(1, 10, 1);
        due(15, () -> x.rush(1));
        due(2, () -> x.undo());
        // A job without steps changes nothing, but is a change.
        start("13");
        x.addJob(0, 0, 1, 0);
        due(12, () -> x.plan(0));
        due(12, () -> x.rush(3));
        due(2, () -> x.undo());
    }

    private static void setWorker() {
        start("14");
        due(INDEX, () -> x.setWorker(-1, 0));
        due(INDEX, () -> x.setWorker(6, 16));
        due(ARGUMENT, () -> x.setWorker(0, -1));
        due(ARGUMENT, () -> x.setWorker(0, 16));
        due(12, () -> x.plan(0));
        due(0, () -> x.setWorker(5, 15));
        due(15, () -> x.setWorker(5, 0));
        due(0, () -> x.setWorker(5, 1));
        due(12, () -> x.value(0));
        due(3, () -> x.undo());
        due(0, () -> x.match(15));
        due(2, () -> x.undo());
        due(1, () -> x.match(15));
    }

    private static void undo() {
        start("15");
        due(NONE, () -> x.undo());
        for (int i = 0; i < 10; i++) {
            int machines = i + 1;
            due(i, () -> x.setWorker(0, machines));
        }
        for (int left = 7; left >= 0; left--) {
            int changes = left;
            due(changes, () -> x.undo());
        }
        due(NONE, () -> x.undo());
        due(NONE, () -> x.undo());
        // The first two of ten can't be undone.
        due(2, () -> x.setWorker(0, 0));
        due(0, () -> x.undo());
        due(2, () -> x.setWorker(0, 2));
        due(0, () -> x.undo());

        // All that a change touches comes back, the plan too; there is no redo.
        start("15");
        due(12, () -> x.plan(0));
        due(1, () -> x.close(0, 0, 5));
        due(0, () -> x.setTool(1, 60, 6));
        due(0, () -> x.setSetup(0, 2, 6));
        due(3, () -> x.addJob(1, 2, 3, 1));
        due(0, () -> x.addStep(3, 3, 4));
        due(4, () -> x.cut(3));
        due(6, () -> x.undo());
        due(4, () -> x.jobs());
        due(4, () -> x.jobAt(3, 5));
        due(5, () -> x.undo());
        due(0, () -> x.jobAt(3, 4));
        due(4, () -> x.undo());
        due(3, () -> x.jobs());
        due(STATE, () -> x.value(0));
        due(3, () -> x.undo());
        due(17, () -> x.value(0));
        due(2, () -> x.undo());
        due(0, () -> x.setTool(1, 0, 0));
        due(2, () -> x.undo());
        due(1, () -> x.undo());
        due(12, () -> x.value(0));
        due(1, () -> x.close(0, 0, 1));
        due(1, () -> x.undo());
        due(0, () -> x.undo());
        due(STATE, () -> x.value(0));
        due(INDEX, () -> x.orderAt(0, 0));
        due(INDEX, () -> x.wayAt(0));
        due(NONE, () -> x.undo());
    }

    // ---- Jobs and the plan

    private static void jobsAndSteps() {
        start("16, 17, 18");
        due(INDEX, () -> x.jobAt(-1, 0));
        due(INDEX, () -> x.jobAt(3, 6));
        due(ARGUMENT, () -> x.jobAt(0, -1));
        due(ARGUMENT, () -> x.jobAt(0, 6));
        due(INDEX, () -> x.stepAt(-1, 0, 0));
        due(INDEX, () -> x.stepAt(3, 0, 0));
        due(INDEX, () -> x.stepAt(0, -1, 0));
        due(INDEX, () -> x.stepAt(0, 2, 2));
        due(ARGUMENT, () -> x.stepAt(0, 0, -1));
        due(ARGUMENT, () -> x.stepAt(0, 0, 2));
        for (int job = 3; job < 6; job++) {
            int number = job;
            due(number, () -> x.jobs());
            due(number, () -> x.addJob(number, 10 * number, number, number - 3));
            due(number, () -> x.jobAt(number, 0));
            due(10 * number, () -> x.jobAt(number, 1));
            due(number, () -> x.jobAt(number, 2));
            due(number - 3, () -> x.jobAt(number, 3));
        }
        due(6, () -> x.jobs());
        due(INDEX, () -> x.stepAt(5, 0, 0));
        due(INDEX, () -> x.jobAt(6, 0));
    }

    private static void beginAndEnd() {
        start("19, 20");
        due(INDEX, () -> x.begin(-1, 0));
        due(INDEX, () -> x.begin(3, 0));
        due(INDEX, () -> x.begin(0, -1));
        due(INDEX, () -> x.begin(0, 2));
        due(STATE, () -> x.begin(0, 1));
        due(INDEX, () -> x.endOf(-1));
        due(INDEX, () -> x.endOf(3));
        due(STATE, () -> x.endOf(2));
        x.addJob(33, 0, 1, 0);
        x.addJob(21, 0, 1, 0);
        x.addStep(4, 3, 4);
        due(33, () -> x.plan(0));
        dueBegins(0, 0, 0, 0, 1, 3, 1, 0, 0, 1, 1, 7, 2, 0, 3, 2, 1, 7, 4, 0, 21);
        int[] ends = {7, 12, 8, 33, 25};
        for (int job = 0; job < 5; job++) {
            int number = job;
            due(ends[job], () -> x.endOf(number));
        }
        due(INDEX, () -> x.begin(3, 0));
    }

    private static void value() {
        start("21");
        due(ARGUMENT, () -> x.value(-1));
        due(ARGUMENT, () -> x.value(5));
        due(STATE, () -> x.value(0));
        x.addJob(0, 20, 9, 0);
        x.addStep(3, 3, 22);
        x.addJob(13, 13, 4, 0);
        due(22, () -> x.plan(0));
        // Ends 7, 12, 8, 22 and 13, due 12, 9, 10, 20 and 13.
        due(22, () -> x.value(JobWorkshop.END));
        due(62, () -> x.value(JobWorkshop.SUM));
        due(3, () -> x.value(JobWorkshop.LATENESS));
        due(2, () -> x.value(JobWorkshop.COUNT));
        due(21, () -> x.value(JobWorkshop.TARDINESS));
    }

    private static void bound() {
        start("22");
        due(12, () -> x.bound());
        x.addStep(2, 2, 20);
        due(25, () -> x.bound());
        x.addJob(200, 0, 1, 0);
        due(200, () -> x.bound());
        x.addStep(3, 3, 50);
        due(250, () -> x.bound());
        for (int job = 4; job < 6; job++) {
            x.addJob(0, 0, 1, 0);
            for (int step = 0; step < 5; step++) x.addStep(job, 2, 50);
        }
        due(521, () -> x.bound());
        // Neither closures nor set-ups nor tools count.
        x.close(2, 0, 2000);
        x.setSetup(0, 0, 20);
        x.setTool(2, 50, 20);
        due(521, () -> x.bound());
    }

    private static void orderAt() {
        start("23");
        due(INDEX, () -> x.orderAt(-1, 0));
        due(INDEX, () -> x.orderAt(4, 0));
        due(INDEX, () -> x.orderAt(0, 0));
        due(19, () -> x.tell(112233));
        dueOrder(0, 0, 11, 20);
        dueOrder(1, 1, 10);
        dueOrder(2, 21);
        dueOrder(3);
        due(INDEX, () -> x.orderAt(0, -1));
        due(INDEX, () -> x.orderAt(0, HIGH));
        due(3, () -> x.addJob(0, 0, 1, 0));
        due(INDEX, () -> x.orderAt(0, 0));
    }

    private static void doneIn() {
        start("24");
        due(INDEX, () -> x.doneIn(-1, -1));
        due(INDEX, () -> x.doneIn(4, 0));
        due(ARGUMENT, () -> x.doneIn(0, -1));
        due(ARGUMENT, () -> x.doneIn(0, 5001));
        due(STATE, () -> x.doneIn(0, 0));
        due(19, () -> x.tell(112233));
        int[] hours = {0, 0, 0, NONE, NONE, NONE, NONE, NONE, NONE, 1, 1, 1, 1, 1, 2, 2, 2, 2, NONE, NONE};
        for (int hour = 0; hour < hours.length; hour++) {
            int asked = hour;
            due(hours[hour], () -> x.doneIn(0, asked));
        }
        due(2, () -> x.doneIn(2, 18));
        due(NONE, () -> x.doneIn(2, 5000));
        due(NONE, () -> x.doneIn(3, 0));
    }

    // ---- What holds all up

    private static void dueWay(int blocks, int longest, int... steps) {
        due(steps.length, () -> x.wayLength());
        for (int place = 0; place < steps.length; place++) {
            int at = place;
            due(steps[place], () -> x.wayAt(at));
        }
        due(INDEX, () -> x.wayAt(steps.length));
        due(blocks, () -> x.blocks());
        due(longest, () -> x.longestBlock());
    }

    private static void way() {
        // Each answer stands by itself, whatever was asked ahead of it.
        for (int asked = 0; asked < 4; asked++) {
            startTold("25, 26, 27, 28");
            if (asked == 0) due(6, () -> x.wayLength());
            if (asked == 1) due(10, () -> x.wayAt(2));
            if (asked == 2) due(4, () -> x.blocks());
            if (asked == 3) due(2, () -> x.longestBlock());
        }
        start("25, 26, 27, 28");
        due(STATE, () -> x.wayLength());
        due(STATE, () -> x.blocks());
        due(STATE, () -> x.longestBlock());
        due(INDEX, () -> x.wayAt(0));
        due(12, () -> x.plan(0));
        dueWay(1, 3, 0, 20, 11);
        due(INDEX, () -> x.wayAt(-1));
        due(INDEX, () -> x.wayAt(HIGH));
        startTold("25, 26, 27, 28");
        dueWay(4, 2, 0, 1, 10, 11, 20, 21);
        // Job 1 waits for the hour 8, which no step holds up.
        due(1, () -> x.close(1, 7, 8));
        dueWay(3, 2, 10, 11, 20, 21);
        // A set-up, and the change of a tool, belong to the way.
        start("25, 26, 27, 28");
        x.setSetup(0, 1, 5);
        due(24, () -> x.tell(112233));
        dueWay(4, 2, 0, 1, 10, 11, 20, 21);
        start("25, 26, 27, 28");
        x.addJob(0, 0, 1, 0);
        x.addStep(3, 3, 30);
        x.addJob(0, 0, 1, 0);
        x.addStep(4, 3, 30);
        x.setTool(3, 50, 7);
        due(67, () -> x.plan(0));
        dueWay(1, 2, 30, 40);
        // Of steps that end at once the way takes that of the lowest job.
        start("25, 26, 27, 28");
        x.addJob(0, 0, 1, 0);
        x.addStep(3, 3, 12);
        due(12, () -> x.plan(0));
        dueWay(1, 3, 0, 20, 11);
        x.addStep(3, 2, 1);
        due(13, () -> x.plan(0));
        dueWay(2, 1, 30, 31);
        // The step ahead in the job goes ahead of that on the machine: both end at 7 here.
        start("25, 26, 27, 28");
        x.addJob(0, 0, 1, 0);
        x.addStep(3, 3, 7);
        x.addStep(3, 1, 9);
        due(16, () -> x.plan(0));
        dueBegins(3, 1, 7);
        dueWay(2, 1, 30, 31);
    }

    private static void slack() {
        start("29");
        due(INDEX, () -> x.slack(-1, 0));
        due(INDEX, () -> x.slack(3, 0));
        due(INDEX, () -> x.slack(0, 2));
        due(INDEX, () -> x.slack(0, -1));
        due(STATE, () -> x.slack(0, 0));
        due(12, () -> x.plan(0));
        // Job 1 can wait on machine 1 until it ends at 7, when its next step begins; job 0 behind it then ends at 11.
        int[][] slacks = {{0, 0, 0}, {0, 1, 5}, {1, 0, 5}, {1, 1, 0}, {2, 0, 0}, {2, 1, 4}};
        for (int[] row : slacks) due(row[2], () -> x.slack(row[0], row[1]));
        dueBegins(1, 0, 0, 0, 1, 3);
        // In a closure it goes on to the first hour that fits.
        due(1, () -> x.close(2, 10, 12));
        due(2, () -> x.slack(2, 1));
        due(1, () -> x.undo());
        due(1, () -> x.close(2, 9, 11));
        due(4, () -> x.slack(2, 1));
        // At most 1000, also if there are more.
        start("29");
        x.addJob(0, 0, 1, 0);
        x.addStep(3, 3, 1);
        x.close(3, 0, 1007);
        due(1008, () -> x.plan(0));
        due(1000, () -> x.slack(2, 1));
        due(996, () -> x.slack(1, 1));
        x.close(3, 1007, 2000);
        due(1000, () -> x.slack(1, 1));
        due(0, () -> x.slack(3, 0));
        // A job without steps can be what ends last.
        start("29");
        x.addJob(20, 0, 1, 0);
        due(20, () -> x.plan(0));
        due(8, () -> x.slack(1, 1));
    }

    private static void delay() {
        start("30");
        due(INDEX, () -> x.delay(-1, 0));
        due(INDEX, () -> x.delay(0, 3));
        due(INDEX, () -> x.delay(3, 0));
        due(STATE, () -> x.delay(0, 1));
        due(19, () -> x.tell(112233));
        // Rushed, job 2 ends at 5 and not at 19; job 0 at 11 and not at 7; job 1 at 18 and not at 14.
        due(-14, () -> x.delay(2, 2));
        due(4, () -> x.delay(2, 0));
        due(4, () -> x.delay(2, 1));
        due(-7, () -> x.delay(1, 1));
        due(7, () -> x.delay(1, 0));
        due(-4, () -> x.delay(1, 2));
        due(0, () -> x.delay(0, 1));
        due(19, () -> x.value(0));
        due(0, () -> x.undo());
    }

    // ---- One machine, two machines, set-ups

    private static void oneMachine() {
        start("31, 32, 33, 34");
        // Lengths 7, 7 and 5.
        due(36, () -> x.leastSum());
        due(7, () -> x.leastLateness());
        due(1, () -> x.fewestLate());
        due(INDEX, () -> x.isDropped(-1));
        due(INDEX, () -> x.isDropped(3));
        due(false, () -> x.isDropped(0));
        due(true, () -> x.isDropped(1));
        due(false, () -> x.isDropped(2));
        // Of jobs with 7 hours each, the one with the greatest number goes.
        x.addStep(2, 2, 2);
        due(2, () -> x.fewestLate());
        due(false, () -> x.isDropped(0));
        due(true, () -> x.isDropped(1));
        due(true, () -> x.isDropped(2));
        due(42, () -> x.leastSum());
        due(9, () -> x.leastLateness());
        // Releases, closures and set-ups do not count.
        x.addJob(200, 1000, 9, 0);
        x.close(0, 0, 100);
        x.setSetup(0, 1, 20);
        due(42, () -> x.leastSum());
        due(9, () -> x.leastLateness());
        due(2, () -> x.fewestLate());
        due(false, () -> x.isDropped(3));
        // Equal due hours are taken by number: at due 20 job 4 goes in first, and then the longer job 3 is dropped.
        start("31, 32, 33, 34");
        x.addJob(0, 19, 1, 0);
        x.addStep(3, 3, 7);
        x.addJob(0, 19, 1, 0);
        x.addStep(4, 3, 7);
        due(2, () -> x.fewestLate());
        due(true, () -> x.isDropped(1));
        due(false, () -> x.isDropped(3));
        due(true, () -> x.isDropped(4));
    }

    private static void dueTwo(int end, int... order) {
        due(end, () -> x.leastEnd());
        for (int place = 0; place < order.length; place++) {
            int at = place;
            due(order[place], () -> x.twoAt(at));
        }
        due(INDEX, () -> x.twoAt(order.length));
        due(INDEX, () -> x.twoAt(-1));
    }

    private static void twoMachines() {
        start("35, 36");
        dueTwo(12, 1, 0, 2);
        x.addStep(0, 3, 50);
        dueTwo(12, 1, 0, 2);
        x.addJob(0, 0, 1, 0);
        x.addStep(3, 3, 5);
        x.addJob(100, 0, 1, 0);
        x.addJob(0, 0, 1, 0);
        x.addStep(5, 3, 2);
        x.addStep(5, 3, 6);
        dueTwo(18, 1, 5, 0, 2, 3, 4);
        // Equal hours are with the others.
        start("35, 36");
        x.addJob(0, 0, 1, 0);
        x.addStep(3, 3, 1);
        x.addStep(3, 3, 1);
        dueTwo(13, 1, 0, 2, 3);
        x.undo();
        dueTwo(12, 1, 0, 2, 3);
        x.addStep(3, 0, 50);
        dueTwo(61, 3, 1, 0, 2);
    }

    private static void dueTour(int hours, int... order) {
        due(hours, () -> x.leastSetup());
        for (int place = 0; place < order.length; place++) {
            int at = place;
            due(order[place], () -> x.setupAt(at));
        }
        due(INDEX, () -> x.setupAt(order.length));
        due(INDEX, () -> x.setupAt(-1));
    }

    private static void setupTour() {
        start("37, 38");
        dueTour(0, 0, 1, 2);
        x.setSetup(0, 1, 2);
        dueTour(0, 0, 2, 1);
        x.setSetup(0, 2, 3);
        dueTour(0, 1, 2, 0);
        x.setSetup(1, 2, 4);
        dueTour(0, 2, 1, 0);
        x.setSetup(2, 1, 5);
        dueTour(2, 2, 0, 1);
        // A job of a kind that is there counts by its kind, not by its number.
        x.addJob(0, 0, 1, 0);
        dueTour(2, 2, 0, 1, 3);
        x.setSetup(0, 0, 1);
        x.setSetup(1, 0, 20);
        dueTour(3, 2, 0, 3, 1);
    }

    // ---- Workers, promises, hours worked

    private static void dueMatch(int set, int filled, int... workers) {
        due(filled, () -> x.match(set));
        for (int machine = 0; machine < 4; machine++) {
            int asked = machine;
            due(workers[machine], () -> x.workerOf(set, asked));
        }
    }

    private static void match() {
        start("39, 40");
        due(ARGUMENT, () -> x.match(-1));
        due(ARGUMENT, () -> x.match(16));
        due(INDEX, () -> x.workerOf(16, -1));
        due(INDEX, () -> x.workerOf(0, 4));
        due(ARGUMENT, () -> x.workerOf(-1, 0));
        due(ARGUMENT, () -> x.workerOf(16, 3));
        dueMatch(15, 0, NONE, NONE, NONE, NONE);
        x.setWorker(5, 3);
        // No worker comes behind all workers: machine 0 gets the only one.
        dueMatch(3, 1, 5, NONE, NONE, NONE);
        dueMatch(2, 1, NONE, 5, NONE, NONE);
        x.setWorker(0, 3);
        dueMatch(3, 2, 0, 5, NONE, NONE);
        x.setWorker(5, 1);
        // Both get one only if the first worker leaves machine 0 to the last one.
        dueMatch(3, 2, 5, 0, NONE, NONE);
        dueMatch(1, 1, 0, NONE, NONE, NONE);
        dueMatch(0, 0, NONE, NONE, NONE, NONE);
        x.setWorker(2, 15);
        x.setWorker(3, 4);
        dueMatch(15, 4, 5, 0, 3, 2);
        dueMatch(7, 3, 0, 2, 3, NONE);
        dueMatch(12, 2, NONE, NONE, 3, 2);
        dueMatch(4, 1, NONE, NONE, 2, NONE);
    }

    private static void promiseWithOdds() {
        start("41");
        due(INDEX, () -> x.promise(-1, -1, 0));
        due(INDEX, () -> x.promise(3, 0, 1));
        due(ARGUMENT, () -> x.promise(0, -1, 1));
        due(ARGUMENT, () -> x.promise(0, 1001, 1));
        due(ARGUMENT, () -> x.promise(0, 0, 0));
        due(ARGUMENT, () -> x.promise(0, 0, 1001));
        // 7, 10, 11 or 14 hours, each with a quarter.
        int[][] quarters = {{1, 7}, {250, 7}, {251, 10}, {500, 10}, {501, 11}, {750, 11}, {751, 14}, {1000, 14}};
        for (int[] row : quarters) due(row[1], () -> x.promise(0, 500, row[0]));
        due(7, () -> x.promise(0, 0, 1));
        due(7, () -> x.promise(0, 0, 1000));
        due(14, () -> x.promise(0, 1000, 1));
        due(14, () -> x.promise(0, 1000, 1000));
        // 999 * 999 millionths, then 999 more, which is exactly 999 thousandths.
        due(7, () -> x.promise(0, 1, 998));
        due(10, () -> x.promise(0, 1, 999));
        due(14, () -> x.promise(0, 1, 1000));
        x.addJob(9, 0, 1, 0);
        due(9, () -> x.promise(3, 500, 1));
        due(9, () -> x.promise(3, 1000, 1000));
        for (int step = 0; step < 5; step++) x.addStep(3, 3, 50);
        x.close(3, 0, 2000);
        x.setTool(3, 50, 20);
        due(259, () -> x.promise(3, 0, 1000));
        due(509, () -> x.promise(3, 1000, 1));
        // Thirty-seconds: 1, 5, 10, 10, 5, 1.
        due(259, () -> x.promise(3, 500, 31));
        due(309, () -> x.promise(3, 500, 32));
        due(309, () -> x.promise(3, 500, 187));
        due(359, () -> x.promise(3, 500, 188));
        due(359, () -> x.promise(3, 500, 500));
        due(409, () -> x.promise(3, 500, 501));
        due(509, () -> x.promise(3, 500, 1000));
    }

    private static void worked() {
        start("42");
        due(ARGUMENT, () -> x.worked(-1, 0));
        due(ARGUMENT, () -> x.worked(5001, 0));
        due(ARGUMENT, () -> x.worked(0, -1));
        due(ARGUMENT, () -> x.worked(0, 3));
        due(STATE, () -> x.worked(0, 0));
        due(12, () -> x.plan(0));
        // Job 0 from 0 and 3 on, to 7; job 1 from 0 and 7 on, to 12; job 2 from 3 and 7 on, to 8.
        int[][] rows = {{0, 0, 0, 0}, {1, 2, 0, 2}, {5, 9, 0, 9}, {6, 11, 0, 11}, {7, 13, 7, 6}, {8, 15, 12, 3}, {11, 18, 12, 6}, {12, 19, 19, 0}, {5000, 19, 19, 0}};
        for (int[] row : rows) {
            for (int what = 0; what < 3; what++) {
                int asked = what;
                due(row[1 + what], () -> x.worked(row[0], asked));
            }
        }
    }

    // ---- Measures

    private static void measures() {
        start("43, 44");
        due(STATE, () -> x.meanEnd());
        due(INDEX, () -> x.use(-1));
        due(INDEX, () -> x.use(4));
        due(STATE, () -> x.use(0));
        due(19, () -> x.tell(112233));
        due(40.0 / 3.0, () -> x.meanEnd());
        due(12.0f / 19.0f, () -> x.use(0));
        due(6.0f / 19.0f, () -> x.use(1));
        due(1.0f / 19.0f, () -> x.use(2));
        due(0.0f, () -> x.use(3));
    }

    private static void errors() {
        start("45");
        due(0, () -> x.errors());
        due(12, () -> x.plan(0));
        due(0, () -> x.errors());
        for (int job = 3; job < 6; job++) {
            x.addJob(200, 0, 1, job - 3);
            for (int step = 0; step < 5; step++) x.addStep(job, step % 4, 50);
        }
        for (int machine = 0; machine < 4; machine++) {
            x.close(machine, 100, 210);
            x.close(machine, 250, 1990);
        }
        for (int rule = 0; rule < 8; rule++) {
            int asked = rule;
            due(true, () -> x.plan(asked) >= x.bound());
            due(0, () -> x.errors());
        }
    }

    private static void throwingChangesNothing() {
        startTold("12 of the terms");
        due(INDEX, () -> x.close(4, 0, 1));
        due(ARGUMENT, () -> x.close(0, 1, 1));
        due(ARGUMENT, () -> x.setTool(0, 40, 0));
        due(ARGUMENT, () -> x.setSetup(0, 0, 21));
        due(ARGUMENT, () -> x.addJob(0, 0, 0, 0));
        due(ARGUMENT, () -> x.addStep(0, 0, 0));
        due(STATE, () -> x.cut(2));
        due(ARGUMENT, () -> x.plan(8));
        due(ARGUMENT, () -> x.tell(112232));
        due(ARGUMENT, () -> x.best(5));
        due(STATE, () -> x.swap(0, 0));
        due(ARGUMENT, () -> x.replan(0, 2001));
        due(INDEX, () -> x.rush(3));
        due(ARGUMENT, () -> x.setWorker(0, 16));
        dueOrder(0, 0, 11, 20);
        due(19, () -> x.value(0));
        due(3, () -> x.jobs());
        due(0, () -> x.undo());
        due(NONE, () -> x.undo());
    }
}
