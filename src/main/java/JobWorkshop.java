import java.util.Arrays;

/**
 * A workshop's jobs: steps on machines in order, closures, set-ups, tools that wear, plans by rules and
 * best plans, and what can be asked about them. ../shared/DOC.md tells what each call answers.
 */
public final class JobWorkshop {
    public static final int NONE = -1;
    public static final int SHORTEST = 0, LONGEST = 1, DUE = 2, HEAVY = 3, MOST_LEFT = 4, SLACK = 5, RATIO = 6, RELEASE = 7;
    public static final int END = 0, SUM = 1, LATENESS = 2, COUNT = 3, TARDINESS = 4;

    private static final int MACHINES = 4;
    private static final int MACHINE_SETS = 1 << MACHINES;
    private static final int KINDS = 4;
    private static final int WORKERS = 6;
    private static final int MOST_JOBS = 6;
    private static final int MOST_STEPS = 5;
    private static final int ALL_STEPS = MOST_JOBS * MOST_STEPS;
    private static final int MOST_HOURS = 50;
    private static final int MOST_CLOSURES = 4;
    private static final int MOST_UNDOS = 8;
    private static final int MOST_STEPS_FOR_BEST = 8;
    private static final int MOST_DIGITS = 19;
    private static final int MOST_SLACK = 1000;
    private static final int THOUSAND = 1000;
    private static final int LAST_RELEASE = 200;
    private static final int LAST_DUE = 1000;
    private static final int LAST_CLOSED = 2000;
    private static final int LAST_HOUR = 5000;
    private static final int LEAST_LIFE = 50;
    private static final int MOST_LIFE = 300;
    private static final int MOST_BETWEEN = 20;

    private final Shop shop = new Shop();
    private final Timetable table = new Timetable(shop);
    private final Timetable trial = new Timetable(shop);
    private final Shop[] past = new Shop[MOST_UNDOS];
    private final int[] digits = new int[MOST_DIGITS];
    private final int[] wanted = new int[MACHINES * ALL_STEPS];
    private final BestRow bestRow = new BestRow(shop, trial);
    private final Way way = new Way(shop, table);
    private final HourCheck hourCheck = new HourCheck(shop, table);
    private final Sequences sequences = new Sequences(shop);
    private final SetupTour tour = new SetupTour(shop);
    private final Crew crew = new Crew(shop);
    private final Odds oddsOfJob = new Odds(shop);
    private int nextPast;
    private int undoable;

    public JobWorkshop() {
        int first = shop.newJob(0, 12, 1, 0);
        shop.newStep(first, 0, 3);
        shop.newStep(first, 1, 4);
        int second = shop.newJob(0, 9, 1, 1);
        shop.newStep(second, 1, 2);
        shop.newStep(second, 0, 5);
        int third = shop.newJob(0, 10, 1, 2);
        shop.newStep(third, 0, 4);
        shop.newStep(third, 2, 1);
    }

    // ---- Changes

    public int close(int machine, int from, int to) throws IndexOutOfBoundsException, IllegalArgumentException, IllegalStateException {
        needMachine(machine);
        needRange(from, 0, LAST_CLOSED);
        needRange(to, from + 1, LAST_CLOSED);
        if (shop.closures[machine] >= MOST_CLOSURES) {
            throw new IllegalStateException("the machine has all its closures");
        }
        remember();
        shop.newClosure(machine, from, to);
        table.replay();
        return shop.closures[machine];
    }

    public int setTool(int machine, int life, int change) throws IndexOutOfBoundsException, IllegalArgumentException {
        needMachine(machine);
        if (life != 0) {
            needRange(life, LEAST_LIFE, MOST_LIFE);
        }
        needRange(change, 0, MOST_BETWEEN);
        remember();
        int before = shop.life[machine];
        shop.life[machine] = life;
        shop.change[machine] = change;
        table.replay();
        return before;
    }

    public int setSetup(int from, int to, int hours) throws IndexOutOfBoundsException, IllegalArgumentException {
        needKind(from);
        needKind(to);
        needRange(hours, 0, MOST_BETWEEN);
        remember();
        int before = shop.setup[from * KINDS + to];
        shop.setup[from * KINDS + to] = hours;
        dropPlan();
        return before;
    }

    public int addJob(int release, int due, int weight, int kind) throws IndexOutOfBoundsException, IllegalArgumentException, IllegalStateException {
        needKind(kind);
        needRange(release, 0, LAST_RELEASE);
        needRange(due, 0, LAST_DUE);
        needRange(weight, 1, 9);
        needRoomForJob();
        remember();
        int job = shop.newJob(release, due, weight, kind);
        dropPlan();
        return job;
    }

    public int addStep(int job, int machine, int hours) throws IndexOutOfBoundsException, IllegalArgumentException, IllegalStateException {
        needJob(job);
        needMachine(machine);
        needRange(hours, 1, MOST_HOURS);
        if (shop.steps[job] >= MOST_STEPS) {
            throw new IllegalStateException("the job has all its steps");
        }
        remember();
        int step = shop.newStep(job, machine, hours);
        dropPlan();
        return step;
    }

    public int cut(int job) throws IndexOutOfBoundsException, IllegalStateException {
        needJob(job);
        needRoomForJob();
        if (!shop.canBeHalved(job)) {
            throw new IllegalStateException("the job has no steps, or one of a single hour");
        }
        remember();
        int half = shop.halve(job);
        dropPlan();
        return half;
    }

    public int plan(int rule) throws IllegalArgumentException {
        needRule(rule);
        trial.clear();
        trial.putRestByRule(rule);
        return adoptTrial();
    }

    public int tell(long row) throws IllegalArgumentException {
        if (!putDigits(row)) {
            throw new IllegalArgumentException("no row of all the jobs' steps");
        }
        return adoptTrial();
    }

    public int best(int aim) throws IllegalArgumentException, IllegalStateException {
        needAim(aim);
        if (shop.stepTotal() > MOST_STEPS_FOR_BEST) {
            throw new IllegalStateException("too many steps for a best plan");
        }
        bestRow.search(aim);
        adoptTrial();
        return table.aimed(aim);
    }

    public int swap(int machine, int place) throws IndexOutOfBoundsException, IllegalStateException {
        needMachine(machine);
        if (place < 0 || place >= table.count[machine] - 1) {
            throw new IndexOutOfBoundsException("no such two places");
        }
        if (!putSwapped(machine, place)) {
            throw new IllegalStateException("no row tells these orders");
        }
        return adoptTrial();
    }

    public int replan(int rule, int hour) throws IllegalArgumentException, IllegalStateException {
        needRule(rule);
        needRange(hour, 0, LAST_CLOSED);
        needPlan();
        trial.clear();
        trial.putBegunIn(table, hour);
        trial.putRestByRule(rule);
        return adoptTrial();
    }

    public int rush(int job) throws IndexOutOfBoundsException, IllegalStateException {
        needJob(job);
        needPlan();
        trial.putRushed(job);
        return adoptTrial();
    }

    public int setWorker(int worker, int machines) throws IndexOutOfBoundsException, IllegalArgumentException {
        if (worker < 0 || worker >= WORKERS) {
            throw new IndexOutOfBoundsException("no such worker");
        }
        needMachines(machines);
        remember();
        int before = shop.skills[worker];
        shop.skills[worker] = machines;
        return before;
    }

    // ---- Undo

    public int undo() {
        if (undoable == 0) {
            return NONE;
        }
        nextPast = (nextPast + MOST_UNDOS - 1) % MOST_UNDOS;
        undoable--;
        Shop kept = past[nextPast];
        if (kept != null) {
            shop.copyFrom(kept);
        }
        table.replay();
        return undoable;
    }

    // ---- Jobs and the plan

    public int jobs() {
        return shop.jobs;
    }

    public int jobAt(int job, int what) throws IndexOutOfBoundsException, IllegalArgumentException {
        needJob(job);
        needRange(what, 0, 5);
        switch (what) {
            case 0: return shop.release[job];
            case 1: return shop.due[job];
            case 2: return shop.weight[job];
            case 3: return shop.kind[job];
            case 4: return shop.steps[job];
            default: return shop.hoursFrom(job, 0);
        }
    }

    public int stepAt(int job, int step, int what) throws IndexOutOfBoundsException, IllegalArgumentException {
        needStep(job, step);
        needRange(what, 0, 1);
        int number = job * MOST_STEPS + step;
        return what == 0 ? shop.machineOf[number] : shop.hoursOf[number];
    }

    public int begin(int job, int step) throws IndexOutOfBoundsException, IllegalStateException {
        needStep(job, step);
        needPlan();
        return table.begin[job * MOST_STEPS + step];
    }

    public int endOf(int job) throws IndexOutOfBoundsException, IllegalStateException {
        needJob(job);
        needPlan();
        return table.leastEndOf(job);
    }

    public int value(int aim) throws IllegalArgumentException, IllegalStateException {
        needAim(aim);
        needPlan();
        return table.aimed(aim);
    }

    public int bound() {
        return shop.leastHours();
    }

    public int orderAt(int machine, int place) throws IndexOutOfBoundsException {
        needMachine(machine);
        if (place < 0 || place >= table.count[machine]) {
            throw new IndexOutOfBoundsException("no such place");
        }
        return told(table.order[machine * ALL_STEPS + place]);
    }

    public int doneIn(int machine, int hour) throws IndexOutOfBoundsException, IllegalArgumentException, IllegalStateException {
        needMachine(machine);
        needRange(hour, 0, LAST_HOUR);
        needPlan();
        for (int place = 0; place < table.count[machine]; place++) {
            int step = table.order[machine * ALL_STEPS + place];
            if (table.begin[step] <= hour && hour < table.endOfStep(step)) {
                return step / MOST_STEPS;
            }
        }
        return NONE;
    }

    // ---- What holds all up

    public int wayLength() throws IllegalStateException {
        needPlan();
        way.trace();
        return way.length;
    }

    public int wayAt(int place) throws IndexOutOfBoundsException {
        way.trace();
        if (place < 0 || place >= way.length) {
            throw new IndexOutOfBoundsException("no such place");
        }
        return told(way.fromEnd[way.length - 1 - place]);
    }

    public int blocks() throws IllegalStateException {
        needPlan();
        way.trace();
        return way.pieces;
    }

    public int longestBlock() throws IllegalStateException {
        needPlan();
        way.trace();
        return way.longestPiece;
    }

    public int slack(int job, int step) throws IndexOutOfBoundsException, IllegalStateException {
        needStep(job, step);
        needPlan();
        int number = job * MOST_STEPS + step;
        int end = table.aimed(END);
        int later = 0;
        // A later begin never makes the plan end earlier, so the greatest number can be found by halves.
        for (int more = 512; more > 0; more /= 2) {
            if (later + more <= MOST_SLACK) {
                trial.putDelayed(number, table.begin[number] + later + more);
                if (trial.aimed(END) <= end) {
                    later += more;
                }
            }
        }
        return later;
    }

    public int delay(int rushed, int job) throws IndexOutOfBoundsException, IllegalStateException {
        needJob(rushed);
        needJob(job);
        needPlan();
        trial.putRushed(rushed);
        return trial.leastEndOf(job) - table.leastEndOf(job);
    }

    // ---- One machine, two machines, set-ups

    public int leastSum() {
        return sequences.sumOfEnds();
    }

    public int leastLateness() {
        return sequences.greatestLateness();
    }

    public int fewestLate() {
        return Integer.bitCount(sequences.droppedJobs());
    }

    public boolean isDropped(int job) throws IndexOutOfBoundsException {
        needJob(job);
        return (sequences.droppedJobs() & 1 << job) != 0;
    }

    public int leastEnd() {
        return sequences.endOnTwo();
    }

    public int twoAt(int place) throws IndexOutOfBoundsException {
        needPlaceOfJob(place);
        return sequences.jobOnTwo(place);
    }

    public int leastSetup() {
        tour.search();
        return tour.leastHours;
    }

    public int setupAt(int place) throws IndexOutOfBoundsException {
        needPlaceOfJob(place);
        tour.search();
        return tour.leastOrder[place];
    }

    // ---- Workers, promises, hours worked

    public int match(int machines) throws IllegalArgumentException {
        needMachines(machines);
        crew.assign(machines);
        return crew.mostFilled;
    }

    public int workerOf(int machines, int machine) throws IndexOutOfBoundsException, IllegalArgumentException {
        needMachine(machine);
        needMachines(machines);
        crew.assign(machines);
        return crew.toldWorkers[machine];
    }

    public int promise(int job, int twice, int odds) throws IndexOutOfBoundsException, IllegalArgumentException {
        needJob(job);
        needRange(twice, 0, THOUSAND);
        needRange(odds, 1, THOUSAND);
        return oddsOfJob.hourOf(job, twice, odds);
    }

    public int worked(int hour, int what) throws IllegalArgumentException, IllegalStateException {
        needRange(hour, 0, LAST_HOUR);
        needRange(what, 0, 2);
        needPlan();
        int sum = 0;
        for (int job = 0; job < shop.jobs; job++) {
            boolean ended = table.leastEndOf(job) <= hour;
            if (what == 0 || ended == (what == 1)) {
                sum += table.hoursDone(job, hour);
            }
        }
        return sum;
    }

    // ---- Measures and the second way

    public double meanEnd() throws IllegalStateException {
        needPlan();
        if (shop.jobs == 0) {
            return 0.0;
        }
        return (double) table.aimed(SUM) / (double) shop.jobs;
    }

    public float use(int machine) throws IndexOutOfBoundsException, IllegalStateException {
        needMachine(machine);
        needPlan();
        int end = table.aimed(END);
        if (end == 0) {
            return 0.0f;
        }
        return (float) shop.hoursOn(machine) / (float) end;
    }

    public int errors() {
        if (!shop.planned) {
            return 0;
        }
        int tooEarly = table.aimed(END) < shop.leastHours() ? 1 : 0;
        return hourCheck.wrongHours() + tooEarly;
    }

    // ---- What the calls need

    private static void needMachine(int machine) {
        if (machine < 0 || machine >= MACHINES) {
            throw new IndexOutOfBoundsException("no such machine");
        }
    }

    private static void needKind(int kind) {
        if (kind < 0 || kind >= KINDS) {
            throw new IndexOutOfBoundsException("no such kind");
        }
    }

    private void needJob(int job) {
        if (job < 0 || job >= shop.jobs) {
            throw new IndexOutOfBoundsException("no such job");
        }
    }

    private void needStep(int job, int step) {
        needJob(job);
        if (step < 0 || step >= shop.steps[job]) {
            throw new IndexOutOfBoundsException("no such step");
        }
    }

    private void needPlaceOfJob(int place) {
        if (place < 0 || place >= shop.jobs) {
            throw new IndexOutOfBoundsException("no such place");
        }
    }

    private static void needRange(int number, int least, int most) {
        if (number < least || number > most) {
            throw new IllegalArgumentException("a number is out of range");
        }
    }

    private static void needRule(int rule) {
        needRange(rule, SHORTEST, RELEASE);
    }

    private static void needAim(int aim) {
        needRange(aim, END, TARDINESS);
    }

    private static void needMachines(int machines) {
        needRange(machines, 0, MACHINE_SETS - 1);
    }

    private void needRoomForJob() {
        if (shop.jobs >= MOST_JOBS) {
            throw new IllegalStateException("all jobs are there");
        }
    }

    private void needPlan() {
        if (!shop.planned) {
            throw new IllegalStateException("there is no plan");
        }
    }

    // ---- How changes are made

    private static int told(int step) {
        return 10 * (step / MOST_STEPS) + step % MOST_STEPS;
    }

    private void remember() {
        Shop kept = past[nextPast];
        if (kept == null) {
            kept = new Shop();
            past[nextPast] = kept;
        }
        kept.copyFrom(shop);
        nextPast = (nextPast + 1) % MOST_UNDOS;
        undoable = Math.min(undoable + 1, MOST_UNDOS);
    }

    private void dropPlan() {
        shop.planned = false;
        table.replay();
    }

    private int adoptTrial() {
        remember();
        shop.takeRow(trial.row);
        table.replay();
        return table.aimed(END);
    }

    private boolean putDigits(long row) {
        int count = 0;
        long rest = row;
        while (rest > 0 && count < MOST_DIGITS) {
            digits[count] = (int) (rest % 10);
            rest /= 10;
            count++;
        }
        if (row < 0 || count != shop.stepTotal()) {
            return false;
        }
        trial.clear();
        for (int place = count - 1; place >= 0; place--) {
            int job = digits[place] - 1;
            if (!trial.hasLeft(job)) {
                return false;
            }
            trial.put(job, 0);
        }
        return true;
    }

    private boolean putSwapped(int machine, int place) {
        System.arraycopy(table.order, 0, wanted, 0, wanted.length);
        int first = machine * ALL_STEPS + place;
        wanted[first] = table.order[first + 1];
        wanted[first + 1] = table.order[first];
        trial.clear();
        int total = shop.stepTotal();
        for (int put = 0; put < total; put++) {
            int job = trial.nextOf(wanted);
            if (job == NONE) {
                return false;
            }
            trial.put(job, 0);
        }
        return true;
    }

    /**
     * The jobs, the machines, the workers, and the row of job numbers that tells the plan, if there is one.
     * Step s of job j stands at j * MOST_STEPS + s in the rows of steps.
     */
    private static final class Shop {
        int jobs;
        final int[] release = new int[MOST_JOBS];
        final int[] due = new int[MOST_JOBS];
        final int[] weight = new int[MOST_JOBS];
        final int[] kind = new int[MOST_JOBS];
        final int[] steps = new int[MOST_JOBS];
        final int[] machineOf = new int[ALL_STEPS];
        final int[] hoursOf = new int[ALL_STEPS];
        final int[] closures = new int[MACHINES];
        final int[] closedFrom = new int[MACHINES * MOST_CLOSURES];
        final int[] closedTo = new int[MACHINES * MOST_CLOSURES];
        final int[] life = new int[MACHINES];
        final int[] change = new int[MACHINES];
        final int[] setup = new int[KINDS * KINDS];
        final int[] skills = new int[WORKERS];
        boolean planned;
        final int[] row = new int[ALL_STEPS];

        void copyFrom(Shop other) {
            jobs = other.jobs;
            copy(other.release, release);
            copy(other.due, due);
            copy(other.weight, weight);
            copy(other.kind, kind);
            copy(other.steps, steps);
            copy(other.machineOf, machineOf);
            copy(other.hoursOf, hoursOf);
            copy(other.closures, closures);
            copy(other.closedFrom, closedFrom);
            copy(other.closedTo, closedTo);
            copy(other.life, life);
            copy(other.change, change);
            copy(other.setup, setup);
            copy(other.skills, skills);
            planned = other.planned;
            copy(other.row, row);
        }

        private static void copy(int[] from, int[] to) {
            System.arraycopy(from, 0, to, 0, Math.min(from.length, to.length));
        }

        void takeRow(int[] from) {
            copy(from, row);
            planned = true;
        }

        int newJob(int newRelease, int newDue, int newWeight, int newKind) {
            if (jobs >= MOST_JOBS) {
                return NONE;
            }
            release[jobs] = newRelease;
            due[jobs] = newDue;
            weight[jobs] = newWeight;
            kind[jobs] = newKind;
            steps[jobs] = 0;
            jobs++;
            return jobs - 1;
        }

        int newStep(int job, int machine, int hours) {
            if (job < 0 || job >= jobs || steps[job] >= MOST_STEPS) {
                return NONE;
            }
            int step = steps[job];
            machineOf[job * MOST_STEPS + step] = machine;
            hoursOf[job * MOST_STEPS + step] = hours;
            steps[job]++;
            return step;
        }

        void newClosure(int machine, int from, int to) {
            int closure = closures[machine];
            if (closure < MOST_CLOSURES) {
                closedFrom[machine * MOST_CLOSURES + closure] = from;
                closedTo[machine * MOST_CLOSURES + closure] = to;
                closures[machine]++;
            }
        }

        boolean canBeHalved(int job) {
            for (int step = 0; step < steps[job]; step++) {
                if (hoursOf[job * MOST_STEPS + step] < 2) {
                    return false;
                }
            }
            return steps[job] > 0;
        }

        int halve(int job) {
            int half = newJob(release[job], due[job], weight[job], kind[job]);
            for (int step = 0; step < steps[job]; step++) {
                int number = job * MOST_STEPS + step;
                int hours = hoursOf[number] / 2;
                newStep(half, machineOf[number], hours);
                hoursOf[number] -= hours;
            }
            return half;
        }

        int stepTotal() {
            int total = 0;
            for (int job = 0; job < jobs; job++) {
                total += steps[job];
            }
            return total;
        }

        int hoursFrom(int job, int firstStep) {
            int sum = 0;
            for (int step = firstStep; step < steps[job]; step++) {
                sum += hoursOf[job * MOST_STEPS + step];
            }
            return sum;
        }

        int hoursOn(int machine) {
            int sum = 0;
            for (int job = 0; job < jobs; job++) {
                for (int step = 0; step < steps[job]; step++) {
                    int number = job * MOST_STEPS + step;
                    if (machineOf[number] == machine) {
                        sum += hoursOf[number];
                    }
                }
            }
            return sum;
        }

        int leastHours() {
            int most = 0;
            for (int job = 0; job < jobs; job++) {
                most = Math.max(most, release[job] + hoursFrom(job, 0));
            }
            for (int machine = 0; machine < MACHINES; machine++) {
                most = Math.max(most, hoursOn(machine));
            }
            return most;
        }

        boolean isClosedIn(int machine, int hour) {
            for (int closure = 0; closure < closures[machine]; closure++) {
                int at = machine * MOST_CLOSURES + closure;
                if (closedFrom[at] <= hour && hour < closedTo[at]) {
                    return true;
                }
            }
            return false;
        }

        int firstOpen(int machine, int hour, int hours) {
            int open = hour;
            // Each round that moves the hour leaves a closure behind for good, so as many rounds as closures do.
            for (int round = 0; round < closures[machine]; round++) {
                for (int closure = 0; closure < closures[machine]; closure++) {
                    int at = machine * MOST_CLOSURES + closure;
                    if (open < closedTo[at] && closedFrom[at] < open + hours) {
                        open = closedTo[at];
                    }
                }
            }
            return open;
        }
    }

    /**
     * Steps put one by one behind the orders of their machines, each as early as it can begin.
     * All that a next step needs is read from the steps that are put, so that the latest one can be taken back.
     */
    private static final class Timetable {
        private final Shop shop;
        int length;
        final int[] row = new int[ALL_STEPS];
        final int[] putOf = new int[MOST_JOBS];
        final int[] count = new int[MACHINES];
        final int[] order = new int[MACHINES * ALL_STEPS];
        final int[] begin = new int[ALL_STEPS];
        final int[] ahead = new int[ALL_STEPS];
        final int[] between = new int[ALL_STEPS];
        private final int[] wear = new int[ALL_STEPS];

        Timetable(Shop shop) {
            this.shop = shop;
        }

        void clear() {
            length = 0;
            Arrays.fill(putOf, 0);
            Arrays.fill(count, 0);
        }

        boolean hasLeft(int job) {
            return job >= 0 && job < shop.jobs && putOf[job] < shop.steps[job];
        }

        int endOfStep(int step) {
            return begin[step] + shop.hoursOf[step];
        }

        private int nextStep(int job) {
            return job * MOST_STEPS + putOf[job];
        }

        private int readyHour(int job) {
            return putOf[job] == 0 ? shop.release[job] : endOfStep(nextStep(job) - 1);
        }

        private int lastOn(int machine) {
            return count[machine] == 0 ? NONE : order[machine * ALL_STEPS + count[machine] - 1];
        }

        private boolean needsTool(int last, int step) {
            int life = shop.life[shop.machineOf[step]];
            return life != 0 && wear[last] + shop.hoursOf[step] > life;
        }

        private int hoursBetween(int last, int step) {
            int setup = shop.setup[shop.kind[last / MOST_STEPS] * KINDS + shop.kind[step / MOST_STEPS]];
            return needsTool(last, step) ? setup + shop.change[shop.machineOf[step]] : setup;
        }

        private int firstHour(int job, int least) {
            int step = nextStep(job);
            int machine = shop.machineOf[step];
            int last = lastOn(machine);
            int hour = Math.max(readyHour(job), least);
            if (last != NONE) {
                hour = Math.max(hour, endOfStep(last) + hoursBetween(last, step));
            }
            return shop.firstOpen(machine, hour, shop.hoursOf[step]);
        }

        void put(int job, int least) {
            if (!hasLeft(job) || length >= ALL_STEPS) {
                return;
            }
            int step = nextStep(job);
            int machine = shop.machineOf[step];
            int last = lastOn(machine);
            begin[step] = firstHour(job, least);
            ahead[step] = last;
            between[step] = last == NONE ? 0 : hoursBetween(last, step);
            boolean fresh = last == NONE || needsTool(last, step);
            wear[step] = fresh ? shop.hoursOf[step] : wear[last] + shop.hoursOf[step];
            order[machine * ALL_STEPS + count[machine]] = step;
            count[machine]++;
            putOf[job]++;
            row[length] = job;
            length++;
        }

        void takeBack() {
            if (length > 0) {
                length--;
                int job = row[length];
                putOf[job]--;
                count[shop.machineOf[nextStep(job)]]--;
            }
        }

        void replay() {
            clear();
            if (shop.planned) {
                putDelayed(NONE, 0);
            }
        }

        void putDelayed(int delayed, int least) {
            clear();
            int total = shop.stepTotal();
            for (int place = 0; place < total; place++) {
                int job = shop.row[place];
                put(job, nextStep(job) == delayed ? least : 0);
            }
        }

        void putRushed(int rushed) {
            clear();
            for (int step = 0; step < shop.steps[rushed]; step++) {
                put(rushed, 0);
            }
            int total = shop.stepTotal();
            for (int place = 0; place < total; place++) {
                if (shop.row[place] != rushed) {
                    put(shop.row[place], 0);
                }
            }
        }

        void putBegunIn(Timetable old, int hour) {
            for (int place = 0; place < old.length; place++) {
                int job = old.row[place];
                if (hasLeft(job) && old.begin[nextStep(job)] < hour) {
                    put(job, 0);
                }
            }
        }

        void putRestByRule(int rule) {
            int left = shop.stepTotal() - length;
            for (int round = 0; round < left; round++) {
                put(firstByRule(rule), 0);
            }
        }

        private int firstByRule(int rule) {
            int first = NONE;
            int firstHour = 0;
            for (int job = 0; job < shop.jobs; job++) {
                if (hasLeft(job)) {
                    int hour = firstHour(job, 0);
                    if (first == NONE || hour < firstHour || hour == firstHour && goesAhead(rule, job, first)) {
                        first = job;
                        firstHour = hour;
                    }
                }
            }
            return first;
        }

        private boolean goesAhead(int rule, int job, int other) {
            int hours = shop.hoursOf[nextStep(job)];
            int otherHours = shop.hoursOf[nextStep(other)];
            switch (rule) {
                case SHORTEST: return hours < otherHours;
                case LONGEST: return hours > otherHours;
                case DUE: return shop.due[job] < shop.due[other];
                case HEAVY: return shop.weight[job] > shop.weight[other];
                case MOST_LEFT: return hoursLeft(job) > hoursLeft(other);
                case SLACK: return shop.due[job] - hoursLeft(job) < shop.due[other] - hoursLeft(other);
                case RATIO: return shop.weight[job] * otherHours > shop.weight[other] * hours;
                default: return shop.release[job] < shop.release[other];
            }
        }

        int nextOf(int[] orders) {
            for (int job = 0; job < shop.jobs; job++) {
                if (hasLeft(job)) {
                    int step = nextStep(job);
                    int machine = shop.machineOf[step];
                    if (orders[machine * ALL_STEPS + count[machine]] == step) {
                        return job;
                    }
                }
            }
            return NONE;
        }

        private int hoursLeft(int job) {
            return shop.hoursFrom(job, putOf[job]);
        }

        /** The job's end when all its steps are put; ahead of that the least end that it can still have. */
        int leastEndOf(int job) {
            return readyHour(job) + hoursLeft(job);
        }

        int aimed(int aim) {
            int value = 0;
            for (int job = 0; job < shop.jobs; job++) {
                int end = leastEndOf(job);
                int lateness = end - shop.due[job];
                switch (aim) {
                    case END: value = Math.max(value, end); break;
                    case SUM: value += end; break;
                    case LATENESS: value = job == 0 ? lateness : Math.max(value, lateness); break;
                    case COUNT: value += lateness > 0 ? 1 : 0; break;
                    default: value += shop.weight[job] * Math.max(lateness, 0); break;
                }
            }
            return value;
        }

        int hoursDone(int job, int hour) {
            int sum = 0;
            for (int step = 0; step < putOf[job]; step++) {
                int number = job * MOST_STEPS + step;
                sum += Math.min(Math.max(hour - begin[number], 0), shop.hoursOf[number]);
            }
            return sum;
        }
    }

    /** Goes through all rows of job numbers in their order and leaves the first best one in the trial. */
    private static final class BestRow {
        private final Shop shop;
        private final Timetable trial;
        private final int[] row = new int[MOST_STEPS_FOR_BEST];
        private int total;
        private int least;
        private boolean found;

        BestRow(Shop shop, Timetable trial) {
            this.shop = shop;
            this.trial = trial;
        }

        void search(int aim) {
            total = Math.min(shop.stepTotal(), MOST_STEPS_FOR_BEST);
            found = false;
            trial.clear();
            explore(aim, 0);
            trial.clear();
            for (int place = 0; place < total; place++) {
                trial.put(row[place], 0);
            }
        }

        private void explore(int aim, int depth) {
            int value = trial.aimed(aim);
            // No aim gets less when further steps are put, and of equal rows the first one stays.
            if (found && value >= least) {
                return;
            }
            if (depth >= total) {
                found = true;
                least = value;
                System.arraycopy(trial.row, 0, row, 0, total);
                return;
            }
            for (int job = 0; job < shop.jobs; job++) {
                if (trial.hasLeft(job)) {
                    trial.put(job, 0);
                    explore(aim, depth + 1);
                    trial.takeBack();
                }
            }
        }
    }

    /** The longest way, from its end back to its begin, and its pieces on the same machine. */
    private static final class Way {
        private final Shop shop;
        private final Timetable table;
        final int[] fromEnd = new int[ALL_STEPS];
        int length;
        int pieces;
        int longestPiece;

        Way(Shop shop, Timetable table) {
            this.shop = shop;
            this.table = table;
        }

        void trace() {
            length = 0;
            pieces = 0;
            longestPiece = 0;
            int piece = 0;
            int machine = NONE;
            int step = latestStep();
            while (step != NONE && length < ALL_STEPS) {
                fromEnd[length] = step;
                length++;
                boolean same = shop.machineOf[step] == machine;
                pieces += same ? 0 : 1;
                piece = same ? piece + 1 : 1;
                longestPiece = Math.max(longestPiece, piece);
                machine = shop.machineOf[step];
                step = stepAheadOf(step);
            }
        }

        private int latestStep() {
            int latest = NONE;
            for (int job = 0; job < shop.jobs; job++) {
                if (table.putOf[job] > 0) {
                    int step = job * MOST_STEPS + table.putOf[job] - 1;
                    if (latest == NONE || table.endOfStep(step) > table.endOfStep(latest)) {
                        latest = step;
                    }
                }
            }
            return latest;
        }

        private int stepAheadOf(int step) {
            if (step % MOST_STEPS > 0 && table.endOfStep(step - 1) == table.begin[step]) {
                return step - 1;
            }
            int last = table.ahead[step];
            if (last != NONE && table.endOfStep(last) + table.between[step] == table.begin[step]) {
                return last;
            }
            return NONE;
        }
    }

    /** Looks over the plan hour by hour, without trust in how it was made. */
    private static final class HourCheck {
        private static final int WRONG = 1 << (MACHINES + MOST_JOBS);
        private final Shop shop;
        private final Timetable table;
        private final int[] marks = new int[LAST_HOUR];

        HourCheck(Shop shop, Timetable table) {
            this.shop = shop;
            this.table = table;
        }

        int wrongHours() {
            Arrays.fill(marks, 0);
            for (int job = 0; job < shop.jobs; job++) {
                for (int step = 0; step < shop.steps[job]; step++) {
                    markStep(job, job * MOST_STEPS + step);
                }
            }
            int wrong = 0;
            for (int hour = 0; hour < marks.length; hour++) {
                wrong += (marks[hour] & WRONG) == 0 ? 0 : 1;
            }
            return wrong;
        }

        private void markStep(int job, int step) {
            int machine = shop.machineOf[step];
            int busy = 1 << machine | 1 << (MACHINES + job);
            int end = Math.min(table.endOfStep(step), marks.length);
            for (int hour = Math.max(table.begin[step], 0); hour < end; hour++) {
                boolean wrong = (marks[hour] & busy) != 0 || shop.isClosedIn(machine, hour);
                marks[hour] |= wrong ? busy | WRONG : busy;
            }
        }
    }

    /** Jobs by ascending keys; those with equal keys in the order in which they came. */
    private static final class KeyedJobs {
        final int[] jobs = new int[MOST_JOBS];
        private final int[] keys = new int[MOST_JOBS];
        int size;

        void clear() {
            size = 0;
        }

        void insert(int job, int key) {
            if (size >= MOST_JOBS) {
                return;
            }
            int place = size;
            while (place > 0 && keys[place - 1] > key) {
                keys[place] = keys[place - 1];
                jobs[place] = jobs[place - 1];
                place--;
            }
            keys[place] = key;
            jobs[place] = job;
            size++;
        }
    }

    /** Whole jobs in a row on one machine, or on one and then on another one. */
    private static final class Sequences {
        private final Shop shop;
        private final KeyedJobs sorted = new KeyedJobs();

        Sequences(Shop shop) {
            this.shop = shop;
        }

        private void sortByLength() {
            sorted.clear();
            for (int job = 0; job < shop.jobs; job++) {
                sorted.insert(job, shop.hoursFrom(job, 0));
            }
        }

        private void sortByDue() {
            sorted.clear();
            for (int job = 0; job < shop.jobs; job++) {
                sorted.insert(job, shop.due[job]);
            }
        }

        int sumOfEnds() {
            sortByLength();
            int end = 0;
            int sum = 0;
            for (int place = 0; place < sorted.size; place++) {
                end += shop.hoursFrom(sorted.jobs[place], 0);
                sum += end;
            }
            return sum;
        }

        int greatestLateness() {
            sortByDue();
            int end = 0;
            int greatest = 0;
            for (int place = 0; place < sorted.size; place++) {
                int job = sorted.jobs[place];
                end += shop.hoursFrom(job, 0);
                int lateness = end - shop.due[job];
                greatest = place == 0 ? lateness : Math.max(greatest, lateness);
            }
            return greatest;
        }

        int droppedJobs() {
            sortByDue();
            int end = 0;
            int taken = 0;
            int dropped = 0;
            for (int place = 0; place < sorted.size; place++) {
                int job = sorted.jobs[place];
                taken |= 1 << job;
                end += shop.hoursFrom(job, 0);
                if (end > shop.due[job]) {
                    int longest = longestOf(taken);
                    taken &= ~(1 << longest);
                    dropped |= 1 << longest;
                    end -= shop.hoursFrom(longest, 0);
                }
            }
            return dropped;
        }

        private int longestOf(int taken) {
            int longest = 0;
            int most = -1;
            for (int job = 0; job < shop.jobs; job++) {
                int hours = shop.hoursFrom(job, 0);
                if ((taken & 1 << job) != 0 && hours >= most) {
                    longest = job;
                    most = hours;
                }
            }
            return longest;
        }

        private int hoursOfStep(int job, int step) {
            return step < shop.steps[job] ? shop.hoursOf[job * MOST_STEPS + step] : 0;
        }

        private void sortForTwo() {
            sorted.clear();
            for (int job = 0; job < shop.jobs; job++) {
                int first = hoursOfStep(job, 0);
                int second = hoursOfStep(job, 1);
                // The others' keys lie above all first hours and fall with the second hours.
                sorted.insert(job, first < second ? first : 2 * MOST_HOURS + 1 - second);
            }
        }

        int endOnTwo() {
            sortForTwo();
            int firstEnd = 0;
            int secondEnd = 0;
            for (int place = 0; place < sorted.size; place++) {
                firstEnd += hoursOfStep(sorted.jobs[place], 0);
                secondEnd = Math.max(firstEnd, secondEnd) + hoursOfStep(sorted.jobs[place], 1);
            }
            return secondEnd;
        }

        int jobOnTwo(int place) {
            sortForTwo();
            return place >= 0 && place < sorted.size ? sorted.jobs[place] : NONE;
        }
    }

    /** Goes through all orders of the jobs, by job numbers, for the first one with the least set-up hours. */
    private static final class SetupTour {
        private final Shop shop;
        private final int[] order = new int[MOST_JOBS];
        final int[] leastOrder = new int[MOST_JOBS];
        int leastHours;
        private boolean found;

        SetupTour(Shop shop) {
            this.shop = shop;
        }

        void search() {
            leastHours = 0;
            found = false;
            explore(0, 0, 0);
        }

        private void explore(int depth, int taken, int hours) {
            if (found && hours >= leastHours) {
                return;
            }
            if (depth >= shop.jobs) {
                found = true;
                leastHours = hours;
                System.arraycopy(order, 0, leastOrder, 0, order.length);
                return;
            }
            for (int job = 0; job < shop.jobs; job++) {
                if ((taken & 1 << job) == 0) {
                    order[depth] = job;
                    explore(depth + 1, taken | 1 << job, hours + hoursBehind(depth, job));
                }
            }
        }

        private int hoursBehind(int depth, int job) {
            return depth == 0 ? 0 : shop.setup[shop.kind[order[depth - 1]] * KINDS + shop.kind[job]];
        }
    }

    /** Goes through all matches of workers in the told order for the first one that fills the most machines. */
    private static final class Crew {
        private final Shop shop;
        private final int[] workers = new int[MACHINES];
        final int[] toldWorkers = new int[MACHINES];
        int mostFilled;

        Crew(Shop shop) {
            this.shop = shop;
        }

        void assign(int machines) {
            mostFilled = -1;
            explore(fillable(machines), 0, 0, 0);
        }

        private int fillable(int machines) {
            int known = 0;
            for (int worker = 0; worker < WORKERS; worker++) {
                known |= shop.skills[worker];
            }
            return machines & known;
        }

        private void explore(int machines, int machine, int busy, int filled) {
            if (filled + Integer.bitCount(machines >>> machine) <= mostFilled) {
                return;
            }
            if (machine >= MACHINES) {
                mostFilled = filled;
                System.arraycopy(workers, 0, toldWorkers, 0, MACHINES);
                return;
            }
            if ((machines & 1 << machine) != 0) {
                for (int worker = 0; worker < WORKERS; worker++) {
                    if ((busy & 1 << worker) == 0 && (shop.skills[worker] & 1 << machine) != 0) {
                        workers[machine] = worker;
                        explore(machines, machine + 1, busy | 1 << worker, filled + 1);
                    }
                }
            }
            workers[machine] = NONE;
            explore(machines, machine + 1, busy, filled);
        }
    }

    /** The odds of a job's hours, counted in parts of a thousand to the power of its steps. */
    private static final class Odds {
        private final Shop shop;
        private final long[] parts = new long[MOST_STEPS * MOST_HOURS + 1];

        Odds(Shop shop) {
            this.shop = shop;
        }

        int hourOf(int job, int twice, int odds) {
            int most = Math.min(shop.hoursFrom(job, 0), parts.length - 1);
            long whole = spread(job, twice, most);
            long sum = 0;
            int more = -1;
            while (more < most && sum * THOUSAND < odds * whole) {
                more++;
                sum += parts[more];
            }
            return shop.release[job] + most + Math.max(more, 0);
        }

        private long spread(int job, int twice, int most) {
            Arrays.fill(parts, 0L);
            parts[0] = 1;
            long whole = 1;
            for (int step = 0; step < shop.steps[job]; step++) {
                int hours = shop.hoursOf[job * MOST_STEPS + step];
                for (int more = most; more >= 0; more--) {
                    long longer = more >= hours ? parts[more - hours] * twice : 0;
                    parts[more] = parts[more] * (THOUSAND - twice) + longer;
                }
                whole *= THOUSAND;
            }
            return whole;
        }
    }
}
