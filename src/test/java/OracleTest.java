import java.util.ArrayList;
import java.util.List;
import java.util.Objects;
import java.util.function.Supplier;

/** Runs of pseudo-random calls on the class and on the model of the document. */
public final class OracleTest {
    private static final int RUNS = 400;
    private static final int CALLS = 160;
    private static int wrong = 0;

    public static void main(String[] args) {
        int[] profiles = {0, 1, 2, 3};
        for (int run = 0; run < RUNS && wrong < 20; run++) {
            new Run(run, profiles[run % profiles.length]).play();
        }
        System.out.println(wrong == 0 ? "the class and the model agree" : wrong + " differences");
        if (wrong != 0) {
            System.exit(1);
        }
    }

    /** One object of each kind, and the same calls on both. */
    private static final class Run {
        private final int number;
        private final int profile;
        private final JobWorkshop real = new JobWorkshop();
        private final ShopModel model = new ShopModel();
        private final StringBuilder story = new StringBuilder();
        private long seed;
        private int calls = 0;

        Run(int number, int profile) {
            this.number = number;
            this.profile = profile;
            this.seed = 7919L * number + 17;
        }

        private int pick(int bound) {
            seed = seed * 6364136223846793005L + 1442695040888963407L;
            return (int) ((seed >>> 33) % bound);
        }

        /** Mostly a number from least to most, now and then one at or behind the edges. */
        private int near(int least, int most) {
            int kind = pick(40);
            if (kind == 0) return least - 1;
            if (kind == 1) return most + 1;
            if (kind == 2) return pick(2) == 0 ? Integer.MIN_VALUE : Integer.MAX_VALUE;
            if (kind == 3) return least;
            if (kind == 4) return most;
            return least + pick(most - least + 1);
        }

        private static Object answer(Supplier<Object> call) {
            try {
                return call.get();
            } catch (RuntimeException e) {
                return e.getClass().getName();
            }
        }

        private void both(String call, Supplier<Object> onReal, Supplier<Object> onModel) {
            Object got = answer(onReal);
            Object want = answer(onModel);
            calls++;
            story.append(call).append(" = ").append(want).append('\n');
            if (!Objects.equals(got, want)) {
                wrong++;
                System.out.println("run " + number + ", behind\n" + story + "the class answered " + got);
            }
        }

        void play() {
            prepare();
            while (calls < CALLS && wrong == 0) {
                if (pick(100) < 38) change(); else ask();
                if (calls % 16 == 0) askAll();
            }
        }

        private void prepare() {
            if (profile == 1) {
                for (int i = 0; i < 3; i++) addJob(pick(60), pick(150), 1 + pick(9), pick(4));
                for (int i = 0; i < 10; i++) addStep(pick(6), pick(4), 1 + pick(20));
            } else if (profile == 2) {
                for (int i = 0; i < 3; i++) close(pick(2), pick(20), 20 + pick(60));
                for (int i = 0; i < 6; i++) setSetup(pick(4), pick(4), pick(21));
                addJob(pick(20), pick(60), 1 + pick(9), pick(4));
                addStep(3, pick(3), 1 + pick(6));
                addStep(pick(4), pick(3), 1 + pick(6));
            } else if (profile == 3) {
                for (int i = 0; i < 3; i++) addJob(pick(60), pick(1001), 1 + pick(9), pick(4));
                for (int i = 0; i < 24; i++) addStep(pick(6), pick(2), 20 + pick(31));
                setTool(0, 50 + pick(60), pick(21));
                setTool(1, 50 + pick(60), pick(21));
                if (pick(2) == 0) close(0, 3, 1500 + pick(501));
                for (int i = 0; i < 4; i++) setSetup(pick(4), pick(4), pick(21));
            }
        }

        private void change() {
            switch (pick(profile == 2 ? 15 : 19)) {
                case 0: close(near(0, 3), near(0, 60), near(1, 90)); break;
                case 1: setTool(near(0, 3), pick(3) == 0 ? 0 : near(50, 300), near(0, 20)); break;
                case 2: if (pick(2) == 0) setSetup(near(0, 3), near(0, 3), near(0, 20)); break;
                case 3: if (pick(2) == 0) addJob(near(0, 200), near(0, 1000), near(1, 9), near(0, 3)); break;
                case 4: if (profile != 2 || pick(6) == 0) addStep(near(0, 5), near(0, 3), near(1, 50)); break;
                case 5: if (pick(3) == 0) cut(near(0, 5)); break;
                case 6: case 7: plan(near(0, 7)); break;
                case 8: tell(); break;
                case 9: best(near(0, 4)); break;
                case 10: case 11: swap(near(0, 3), near(0, 5)); break;
                case 12: replan(near(0, 7), pick(5) == 0 ? near(0, 2000) : near(0, 80)); break;
                case 13: rush(near(0, 5)); break;
                case 14: setWorker(near(0, 5), near(0, 15)); break;
                case 15: case 16: plan(pick(8)); break;
                default: for (int i = pick(4); i >= 0; i--) undo(); break;
            }
        }

        private void undo() { both("undo()", () -> real.undo(), () -> model.undo()); }
        private void close(int a, int b, int c) { both("close(" + a + ", " + b + ", " + c + ")", () -> real.close(a, b, c), () -> model.close(a, b, c)); }
        private void setTool(int a, int b, int c) { both("setTool(" + a + ", " + b + ", " + c + ")", () -> real.setTool(a, b, c), () -> model.setTool(a, b, c)); }
        private void setSetup(int a, int b, int c) { both("setSetup(" + a + ", " + b + ", " + c + ")", () -> real.setSetup(a, b, c), () -> model.setSetup(a, b, c)); }
        private void addJob(int a, int b, int c, int d) { both("addJob(" + a + ", " + b + ", " + c + ", " + d + ")", () -> real.addJob(a, b, c, d), () -> model.addJob(a, b, c, d)); }
        private void addStep(int a, int b, int c) { both("addStep(" + a + ", " + b + ", " + c + ")", () -> real.addStep(a, b, c), () -> model.addStep(a, b, c)); }
        private void cut(int a) { both("cut(" + a + ")", () -> real.cut(a), () -> model.cut(a)); }
        private void plan(int a) { both("plan(" + a + ")", () -> real.plan(a), () -> model.plan(a)); }
        private void best(int a) { both("best(" + a + ")", () -> real.best(a), () -> model.best(a)); }
        private void swap(int a, int b) { both("swap(" + a + ", " + b + ")", () -> real.swap(a, b), () -> model.swap(a, b)); }
        private void replan(int a, int b) { both("replan(" + a + ", " + b + ")", () -> real.replan(a, b), () -> model.replan(a, b)); }
        private void rush(int a) { both("rush(" + a + ")", () -> real.rush(a), () -> model.rush(a)); }
        private void setWorker(int a, int b) { both("setWorker(" + a + ", " + b + ")", () -> real.setWorker(a, b), () -> model.setWorker(a, b)); }
        private void tell(long a) { both("tell(" + a + ")", () -> real.tell(a), () -> model.tell(a)); }

        /** A row of all steps in some order, sometimes with a fault, sometimes any number. */
        private void tell() {
            if (pick(6) == 0) {
                tell(pick(3) == 0 ? Long.MAX_VALUE - pick(3) : pick(1000) - 3L);
                return;
            }
            List<Integer> row = new ArrayList<>();
            for (int job = 0; job < model.jobs.size(); job++) {
                for (int i = 0; i < model.jobs.get(job).steps.size(); i++) row.add(pick(row.size() + 1), job + 1);
            }
            if (pick(6) == 0) row.set(pick(row.size()), pick(10));
            if (pick(12) == 0) row.remove(pick(row.size()));
            if (pick(12) == 0) row.add(1 + pick(6));
            long number = 0;
            for (int i = 0; i < row.size() && i < 18; i++) number = 10 * number + row.get(i);
            tell(number);
        }

        private void ask() {
            int a = near(0, 5), b = near(0, 4), machine = near(0, 3), set = near(0, 15), hour = pick(4) == 0 ? near(0, 5000) : near(0, 120);
            int twice = pick(4) == 0 ? 1000 * pick(2) : near(0, 1000), odds = near(1, 1000), what = near(0, 2), place = near(0, 8);
            switch (pick(29)) {
                case 0: both("jobs()", () -> real.jobs(), () -> model.jobs()); break;
                case 1: both("jobAt(" + a + ", " + place + ")", () -> real.jobAt(a, place), () -> model.jobAt(a, place)); break;
                case 2: both("stepAt(" + a + ", " + b + ", " + what + ")", () -> real.stepAt(a, b, what), () -> model.stepAt(a, b, what)); break;
                case 3: both("begin(" + a + ", " + b + ")", () -> real.begin(a, b), () -> model.begin(a, b)); break;
                case 4: both("endOf(" + a + ")", () -> real.endOf(a), () -> model.endOf(a)); break;
                case 5: both("value(" + b + ")", () -> real.value(b), () -> model.value(b)); break;
                case 6: both("bound()", () -> real.bound(), () -> model.bound()); break;
                case 7: both("orderAt(" + machine + ", " + place + ")", () -> real.orderAt(machine, place), () -> model.orderAt(machine, place)); break;
                case 8: both("doneIn(" + machine + ", " + hour + ")", () -> real.doneIn(machine, hour), () -> model.doneIn(machine, hour)); break;
                case 9: both("wayLength()", () -> real.wayLength(), () -> model.wayLength()); break;
                case 10: both("wayAt(" + place + ")", () -> real.wayAt(place), () -> model.wayAt(place)); break;
                case 11: both("blocks()", () -> real.blocks(), () -> model.blocks()); break;
                case 12: both("longestBlock()", () -> real.longestBlock(), () -> model.longestBlock()); break;
                case 13: both("slack(" + a + ", " + b + ")", () -> real.slack(a, b), () -> model.slack(a, b)); break;
                case 14: both("delay(" + a + ", " + b + ")", () -> real.delay(a, b), () -> model.delay(a, b)); break;
                case 15: both("leastSum()", () -> real.leastSum(), () -> model.leastSum()); break;
                case 16: both("leastLateness()", () -> real.leastLateness(), () -> model.leastLateness()); break;
                case 17: both("fewestLate()", () -> real.fewestLate(), () -> model.fewestLate()); break;
                case 18: both("isDropped(" + a + ")", () -> real.isDropped(a), () -> model.isDropped(a)); break;
                case 19: both("leastEnd()", () -> real.leastEnd(), () -> model.leastEnd()); break;
                case 20: both("twoAt(" + a + ")", () -> real.twoAt(a), () -> model.twoAt(a)); break;
                case 21: both("leastSetup()", () -> real.leastSetup(), () -> model.leastSetup()); break;
                case 22: both("setupAt(" + a + ")", () -> real.setupAt(a), () -> model.setupAt(a)); break;
                case 23: both("match(" + set + ")", () -> real.match(set), () -> model.match(set)); break;
                case 24: both("workerOf(" + set + ", " + machine + ")", () -> real.workerOf(set, machine), () -> model.workerOf(set, machine)); break;
                case 25: both("promise(" + a + ", " + twice + ", " + odds + ")", () -> real.promise(a, twice, odds), () -> model.promise(a, twice, odds)); break;
                case 26: both("worked(" + hour + ", " + what + ")", () -> real.worked(hour, what), () -> model.worked(hour, what)); break;
                case 27: both("use(" + machine + ")", () -> real.use(machine), () -> model.use(machine)); break;
                default: both("meanEnd()", () -> real.meanEnd(), () -> model.meanEnd()); break;
            }
        }

        private void askAll() {
            both("jobs()", () -> real.jobs(), () -> model.jobs());
            both("errors()", () -> real.errors(), () -> 0);
            for (int job = 0; job < 6; job++) {
                int a = job;
                both("endOf(" + a + ")", () -> real.endOf(a), () -> model.endOf(a));
                for (int step = 0; step < 5; step++) {
                    int b = step;
                    both("begin(" + a + ", " + b + ")", () -> real.begin(a, b), () -> model.begin(a, b));
                }
            }
            for (int aim = 0; aim < 5; aim++) {
                int a = aim;
                both("value(" + a + ")", () -> real.value(a), () -> model.value(a));
            }
        }
    }
}
