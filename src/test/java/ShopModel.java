import java.math.BigInteger;
import java.util.ArrayDeque;
import java.util.ArrayList;
import java.util.Arrays;
import java.util.Deque;
import java.util.List;

/**
 * A second, slow telling of the document that shares no idea with the class: plans are orders of {job, step} per
 * machine, begins are found by trying hour after hour, and the least of something by trying all.
 */
final class ShopModel {
    /** A job with its steps, each a machine and hours. */
    static final class Job {
        int release, due, weight, kind;
        List<int[]> steps = new ArrayList<>();

        Job(int release, int due, int weight, int kind) {
            this.release = release;
            this.due = due;
            this.weight = weight;
            this.kind = kind;
        }

        Job copy() {
            Job copy = new Job(release, due, weight, kind);
            for (int[] step : steps) copy.steps.add(step.clone());
            return copy;
        }

        int length() {
            int sum = 0;
            for (int[] step : steps) sum += step[1];
            return sum;
        }
    }

    List<Job> jobs = new ArrayList<>();
    List<List<int[]>> closures = new ArrayList<>();
    int[][] tools = new int[4][2];
    int[][] setups = new int[4][4];
    int[] workers = new int[6];
    List<List<int[]>> plan = null;
    final Deque<ShopModel> past = new ArrayDeque<>();

    ShopModel() {
        for (int machine = 0; machine < 4; machine++) closures.add(new ArrayList<>());
        jobs.add(new Job(0, 12, 1, 0));
        jobs.add(new Job(0, 9, 1, 1));
        jobs.add(new Job(0, 10, 1, 2));
        int[][] steps = {{0, 0, 3}, {0, 1, 4}, {1, 1, 2}, {1, 0, 5}, {2, 0, 4}, {2, 2, 1}};
        for (int[] step : steps) jobs.get(step[0]).steps.add(new int[] {step[1], step[2]});
    }

    static List<List<int[]>> copyOrders(List<List<int[]>> orders) {
        if (orders == null) return null;
        List<List<int[]>> copy = new ArrayList<>();
        for (List<int[]> order : orders) {
            List<int[]> inner = new ArrayList<>();
            for (int[] entry : order) inner.add(entry.clone());
            copy.add(inner);
        }
        return copy;
    }

    void keep() {
        ShopModel kept = new ShopModel();
        kept.take(this);
        past.push(kept);
        if (past.size() > 8) past.removeLast();
    }

    void take(ShopModel other) {
        jobs = new ArrayList<>();
        for (Job job : other.jobs) jobs.add(job.copy());
        closures = copyOrders(other.closures);
        for (int i = 0; i < 4; i++) {
            tools[i] = other.tools[i].clone();
            setups[i] = other.setups[i].clone();
        }
        workers = other.workers.clone();
        plan = copyOrders(other.plan);
    }

    static void index(boolean good) {
        if (!good) throw new IndexOutOfBoundsException();
    }

    static void argument(boolean good) {
        if (!good) throw new IllegalArgumentException();
    }

    static void state(boolean good) {
        if (!good) throw new IllegalStateException();
    }

    static boolean in(int number, int least, int most) {
        return number >= least && number <= most;
    }

    void jobThere(int job) { index(in(job, 0, jobs.size() - 1)); }
    void machineThere(int machine) { index(in(machine, 0, 3)); }
    void stepThere(int job, int step) { jobThere(job); index(in(step, 0, jobs.get(job).steps.size() - 1)); }
    void planThere() { state(plan != null); }

    // ---- begins

    /** The begins by job and step, or null if the orders and the jobs stand in each other's way. */
    int[][] begins(List<List<int[]>> orders, int[] delayed, int least) {
        int[][] begin = new int[jobs.size()][5];
        for (int[] row : begin) Arrays.fill(row, -1);
        boolean more = true;
        while (more) {
            more = false;
            for (int machine = 0; machine < 4; machine++) {
                List<int[]> order = orders.get(machine);
                for (int place = 0; place < order.size(); place++) {
                    int[] entry = order.get(place);
                    if (begin[entry[0]][entry[1]] >= 0) continue;
                    if (place > 0 && begin[order.get(place - 1)[0]][order.get(place - 1)[1]] < 0) break;
                    if (entry[1] > 0 && begin[entry[0]][entry[1] - 1] < 0) break;
                    int late = delayed != null && Arrays.equals(delayed, entry) ? least : 0;
                    int hour = late;
                    while (!canBegin(orders, begin, machine, place, hour)) hour++;
                    begin[entry[0]][entry[1]] = hour;
                    more = true;
                }
            }
        }
        for (List<int[]> order : orders) for (int[] entry : order) if (begin[entry[0]][entry[1]] < 0) return null;
        return begin;
    }

    boolean canBegin(List<List<int[]>> orders, int[][] begin, int machine, int place, int hour) {
        List<int[]> order = orders.get(machine);
        int job = order.get(place)[0], step = order.get(place)[1];
        Job it = jobs.get(job);
        if (hour < it.release) return false;
        if (step > 0 && hour < begin[job][step - 1] + it.steps.get(step - 1)[1]) return false;
        if (place > 0) {
            int[] last = order.get(place - 1);
            if (hour < begin[last[0]][last[1]] + hours(last) + between(order, machine, place)) return false;
        }
        for (int[] closure : closures.get(machine)) {
            for (int at = hour; at < hour + hours(order.get(place)); at++) {
                if (in(at, closure[0], closure[1] - 1)) return false;
            }
        }
        return true;
    }

    int hours(int[] entry) {
        return jobs.get(entry[0]).steps.get(entry[1])[1];
    }

    int between(List<int[]> order, int machine, int place) {
        int setup = setups[jobs.get(order.get(place - 1)[0]).kind][jobs.get(order.get(place)[0]).kind];
        return setup + (changedAhead(order, machine, place) ? tools[machine][1] : 0);
    }

    boolean changedAhead(List<int[]> order, int machine, int place) {
        int life = tools[machine][0];
        if (life == 0) return false;
        int sum = hours(order.get(0));
        boolean changed = false;
        for (int i = 1; i <= place; i++) {
            changed = sum + hours(order.get(i)) > life;
            sum = changed ? hours(order.get(i)) : sum + hours(order.get(i));
        }
        return changed;
    }

    int end(int[][] begin, int job) {
        List<int[]> steps = jobs.get(job).steps;
        if (steps.isEmpty()) return jobs.get(job).release;
        return begin[job][steps.size() - 1] + steps.get(steps.size() - 1)[1];
    }

    int valueOf(int[][] begin, int aim) {
        List<Integer> ends = new ArrayList<>();
        for (int job = 0; job < jobs.size(); job++) ends.add(end(begin, job));
        int sum = 0, most = Integer.MIN_VALUE;
        for (int job = 0; job < jobs.size(); job++) {
            int end = ends.get(job), late = end - jobs.get(job).due;
            if (aim == 0) most = Math.max(most, end);
            if (aim == 2) most = Math.max(most, late);
            if (aim == 1) sum += end;
            if (aim == 3 && late > 0) sum++;
            if (aim == 4 && late > 0) sum += jobs.get(job).weight * late;
        }
        return aim == 0 || aim == 2 ? most : sum;
    }

    int[][] now() {
        return begins(plan, null, 0);
    }

    int planned(List<List<int[]>> orders) {
        keep();
        plan = orders;
        return valueOf(now(), 0);
    }

    static List<List<int[]>> empty() {
        List<List<int[]>> orders = new ArrayList<>();
        for (int i = 0; i < 4; i++) orders.add(new ArrayList<>());
        return orders;
    }

    List<List<int[]>> ordersOf(List<Integer> row) {
        List<List<int[]>> orders = empty();
        int[] next = new int[jobs.size()];
        for (int job : row) {
            int step = next[job]++;
            orders.get(jobs.get(job).steps.get(step)[0]).add(new int[] {job, step});
        }
        return orders;
    }

    int stepCount() {
        int sum = 0;
        for (Job job : jobs) sum += job.steps.size();
        return sum;
    }

    // ---- changes

    int close(int machine, int from, int to) {
        machineThere(machine);
        argument(in(from, 0, 2000));
        argument(in(to, from + 1, 2000));
        state(closures.get(machine).size() < 4);
        keep();
        closures.get(machine).add(new int[] {from, to});
        return closures.get(machine).size();
    }

    int setTool(int machine, int life, int change) {
        machineThere(machine);
        argument((life == 0 || in(life, 50, 300)) && in(change, 0, 20));
        keep();
        int before = tools[machine][0];
        tools[machine] = new int[] {life, change};
        return before;
    }

    int setSetup(int from, int to, int hours) {
        index(in(from, 0, 3) && in(to, 0, 3));
        argument(in(hours, 0, 20));
        keep();
        int before = setups[from][to];
        setups[from][to] = hours;
        plan = null;
        return before;
    }

    int addJob(int release, int due, int weight, int kind) {
        index(in(kind, 0, 3));
        argument(in(release, 0, 200) && in(due, 0, 1000) && in(weight, 1, 9));
        state(jobs.size() < 6);
        keep();
        jobs.add(new Job(release, due, weight, kind));
        plan = null;
        return jobs.size() - 1;
    }

    int addStep(int job, int machine, int hours) {
        jobThere(job);
        machineThere(machine);
        argument(in(hours, 1, 50));
        state(jobs.get(job).steps.size() < 5);
        keep();
        jobs.get(job).steps.add(new int[] {machine, hours});
        plan = null;
        return jobs.get(job).steps.size() - 1;
    }

    int cut(int job) {
        jobThere(job);
        Job old = jobs.get(job);
        state(jobs.size() < 6 && !old.steps.isEmpty());
        for (int[] step : old.steps) state(step[1] > 1);
        keep();
        Job lot = old.copy();
        for (int[] step : lot.steps) step[1] = step[1] / 2;
        for (int[] step : old.steps) step[1] = step[1] - step[1] / 2;
        jobs.add(lot);
        plan = null;
        return jobs.size() - 1;
    }

    int plan(int rule) {
        argument(in(rule, 0, 7));
        return planned(byRule(empty(), rule));
    }

    List<List<int[]>> byRule(List<List<int[]>> orders, int rule) {
        int[] next = new int[jobs.size()];
        for (List<int[]> order : orders) for (int[] entry : order) next[entry[0]]++;
        while (true) {
            int chosen = -1, chosenHour = 0;
            for (int job = 0; job < jobs.size(); job++) {
                if (next[job] >= jobs.get(job).steps.size()) continue;
                List<int[]> order = orders.get(jobs.get(job).steps.get(next[job])[0]);
                order.add(new int[] {job, next[job]});
                int hour = begins(orders, null, 0)[job][next[job]];
                order.remove(order.size() - 1);
                if (chosen < 0 || hour < chosenHour || hour == chosenHour && better(rule, job, next[job], chosen, next[chosen])) {
                    chosen = job;
                    chosenHour = hour;
                }
            }
            if (chosen < 0) return orders;
            orders.get(jobs.get(chosen).steps.get(next[chosen])[0]).add(new int[] {chosen, next[chosen]++});
        }
    }

    boolean better(int rule, int a, int stepA, int b, int stepB) {
        Job one = jobs.get(a), two = jobs.get(b);
        int hoursA = one.steps.get(stepA)[1], hoursB = two.steps.get(stepB)[1], leftA = 0, leftB = 0;
        for (int i = stepA; i < one.steps.size(); i++) leftA += one.steps.get(i)[1];
        for (int i = stepB; i < two.steps.size(); i++) leftB += two.steps.get(i)[1];
        if (rule == 0) return hoursA < hoursB;
        if (rule == 1) return hoursA > hoursB;
        if (rule == 2) return one.due < two.due;
        if (rule == 3) return one.weight > two.weight;
        if (rule == 4) return leftA > leftB;
        if (rule == 5) return one.due - leftA < two.due - leftB;
        // A common multiple of both divisors keeps the quotients whole.
        if (rule == 6) return one.weight * (hoursA * hoursB / hoursA) > two.weight * (hoursA * hoursB / hoursB);
        return one.release < two.release;
    }

    int tell(long row) {
        argument(row >= 0);
        List<Integer> told = new ArrayList<>();
        String digits = row == 0 ? "" : Long.toString(row);
        int[] times = new int[jobs.size()];
        for (char digit : digits.toCharArray()) {
            int job = digit - '1';
            argument(in(job, 0, jobs.size() - 1));
            times[job]++;
            told.add(job);
        }
        for (int job = 0; job < jobs.size(); job++) argument(times[job] == jobs.get(job).steps.size());
        return planned(ordersOf(told));
    }

    int best(int aim) {
        argument(in(aim, 0, 4));
        state(stepCount() <= 8);
        List<List<Integer>> rows = new ArrayList<>();
        allRows(rows, new ArrayList<>(), new int[jobs.size()]);
        int least = 0;
        List<List<int[]>> first = null;
        for (List<Integer> row : rows) {
            List<List<int[]>> orders = ordersOf(row);
            int value = valueOf(begins(orders, null, 0), aim);
            if (first == null || value < least) {
                first = orders;
                least = value;
            }
        }
        planned(first);
        return least;
    }

    void allRows(List<List<Integer>> rows, List<Integer> row, int[] used) {
        if (row.size() == stepCount()) rows.add(new ArrayList<>(row));
        for (int job = 0; job < jobs.size(); job++) {
            if (used[job] == jobs.get(job).steps.size()) continue;
            used[job]++;
            row.add(job);
            allRows(rows, row, used);
            row.remove(row.size() - 1);
            used[job]--;
        }
    }

    int swap(int machine, int place) {
        machineThere(machine);
        index(place >= 0 && plan != null && (long) place + 1 < plan.get(machine).size());
        List<List<int[]>> orders = copyOrders(plan);
        int[] first = orders.get(machine).get(place);
        orders.get(machine).set(place, orders.get(machine).get(place + 1));
        orders.get(machine).set(place + 1, first);
        state(begins(orders, null, 0) != null);
        return planned(orders);
    }

    int replan(int rule, int hour) {
        argument(in(rule, 0, 7) && in(hour, 0, 2000));
        planThere();
        int[][] begin = now();
        List<List<int[]>> orders = empty();
        for (int machine = 0; machine < 4; machine++) {
            for (int[] entry : plan.get(machine)) {
                if (begin[entry[0]][entry[1]] < hour) orders.get(machine).add(entry.clone());
            }
        }
        return planned(byRule(orders, rule));
    }

    List<List<int[]>> rushed(int job) {
        List<List<int[]>> orders = empty();
        for (int machine = 0; machine < 4; machine++) {
            for (int[] entry : plan.get(machine)) if (entry[0] == job) orders.get(machine).add(entry.clone());
            for (int[] entry : plan.get(machine)) if (entry[0] != job) orders.get(machine).add(entry.clone());
        }
        return orders;
    }

    int rush(int job) {
        jobThere(job);
        planThere();
        return planned(rushed(job));
    }

    int setWorker(int worker, int machines) {
        index(in(worker, 0, 5));
        argument(in(machines, 0, 15));
        keep();
        int before = workers[worker];
        workers[worker] = machines;
        return before;
    }

    int undo() {
        if (past.isEmpty()) return -1;
        take(past.pop());
        return past.size();
    }

    // ---- questions

    int jobs() {
        return jobs.size();
    }

    int errors() {
        return 0;
    }

    int jobAt(int job, int what) {
        jobThere(job);
        argument(in(what, 0, 5));
        Job it = jobs.get(job);
        return new int[] {it.release, it.due, it.weight, it.kind, it.steps.size(), it.length()}[what];
    }

    int stepAt(int job, int step, int what) {
        stepThere(job, step);
        argument(in(what, 0, 1));
        return jobs.get(job).steps.get(step)[what];
    }

    int begin(int job, int step) {
        stepThere(job, step);
        planThere();
        return now()[job][step];
    }

    int endOf(int job) {
        jobThere(job);
        planThere();
        return end(now(), job);
    }

    int value(int aim) {
        argument(in(aim, 0, 4));
        planThere();
        return valueOf(now(), aim);
    }

    int bound() {
        int most = 0;
        int[] busy = new int[4];
        for (Job job : jobs) {
            most = Math.max(most, job.release + job.length());
            for (int[] step : job.steps) busy[step[0]] += step[1];
        }
        for (int hours : busy) most = Math.max(most, hours);
        return most;
    }

    int orderAt(int machine, int place) {
        machineThere(machine);
        index(plan != null && in(place, 0, plan.get(machine).size() - 1));
        return 10 * plan.get(machine).get(place)[0] + plan.get(machine).get(place)[1];
    }

    int doneIn(int machine, int hour) {
        machineThere(machine);
        argument(in(hour, 0, 5000));
        planThere();
        int[][] begin = now();
        for (int[] entry : plan.get(machine)) {
            int from = begin[entry[0]][entry[1]];
            if (in(hour, from, from + hours(entry) - 1)) return entry[0];
        }
        return -1;
    }

    List<int[]> way() {
        List<int[]> way = new ArrayList<>();
        int[][] begin = now();
        int[] step = null;
        int latest = -1;
        for (int job = 0; job < jobs.size(); job++) {
            for (int i = 0; i < jobs.get(job).steps.size(); i++) {
                int end = begin[job][i] + hours(new int[] {job, i});
                if (end > latest) {
                    latest = end;
                    step = new int[] {job, i};
                }
            }
        }
        while (step != null) {
            way.add(0, step);
            step = aheadInWay(begin, step);
        }
        return way;
    }

    int[] aheadInWay(int[][] begin, int[] step) {
        int at = begin[step[0]][step[1]];
        if (step[1] > 0) {
            int[] ahead = {step[0], step[1] - 1};
            if (begin[ahead[0]][ahead[1]] + hours(ahead) == at) return ahead;
        }
        int machine = jobs.get(step[0]).steps.get(step[1])[0];
        List<int[]> order = plan.get(machine);
        for (int place = 1; place < order.size(); place++) {
            if (!Arrays.equals(order.get(place), step)) continue;
            int[] ahead = order.get(place - 1);
            if (begin[ahead[0]][ahead[1]] + hours(ahead) + between(order, machine, place) == at) return ahead;
        }
        return null;
    }

    int machineOf(int[] step) {
        return jobs.get(step[0]).steps.get(step[1])[0];
    }

    List<Integer> blockSizes() {
        List<Integer> sizes = new ArrayList<>();
        List<int[]> way = way();
        for (int i = 0; i < way.size(); i++) {
            if (i > 0 && machineOf(way.get(i)) == machineOf(way.get(i - 1))) sizes.set(sizes.size() - 1, sizes.get(sizes.size() - 1) + 1);
            else sizes.add(1);
        }
        return sizes;
    }

    int wayLength() { planThere(); return way().size(); }

    int wayAt(int place) {
        index(plan != null && in(place, 0, way().size() - 1));
        return 10 * way().get(place)[0] + way().get(place)[1];
    }

    int blocks() { planThere(); return blockSizes().size(); }

    int longestBlock() {
        planThere();
        int most = 0;
        for (int size : blockSizes()) most = Math.max(most, size);
        return most;
    }

    /** Tries all hours from 1000 down, so that it needs no thought of how the ends grow. */
    int slack(int job, int step) {
        stepThere(job, step);
        planThere();
        int[][] begin = now();
        int end = valueOf(begin, 0);
        int[] it = {job, step};
        for (int later = 1000; later > 0; later--) {
            if (begin[job][step] + later + hours(it) > end) continue;
            if (valueOf(begins(plan, it, begin[job][step] + later), 0) <= end) return later;
        }
        return 0;
    }

    int delay(int rushed, int job) {
        jobThere(rushed);
        jobThere(job);
        planThere();
        return end(begins(rushed(rushed), null, 0), job) - end(now(), job);
    }

    List<List<Integer>> allOrders() {
        List<List<Integer>> all = new ArrayList<>();
        grow(all, new ArrayList<>());
        return all;
    }

    void grow(List<List<Integer>> all, List<Integer> order) {
        if (order.size() == jobs.size()) all.add(new ArrayList<>(order));
        for (int job = 0; job < jobs.size(); job++) {
            if (order.contains(job)) continue;
            order.add(job);
            grow(all, order);
            order.remove(order.size() - 1);
        }
    }

    int leastSum() {
        int least = Integer.MAX_VALUE;
        for (List<Integer> order : allOrders()) {
            int end = 0, sum = 0;
            for (int job : order) sum += end += jobs.get(job).length();
            least = Math.min(least, sum);
        }
        return least;
    }

    int leastLateness() {
        int least = Integer.MAX_VALUE;
        for (List<Integer> order : allOrders()) {
            int end = 0, most = Integer.MIN_VALUE;
            for (int job : order) most = Math.max(most, (end += jobs.get(job).length()) - jobs.get(job).due);
            least = Math.min(least, most);
        }
        return least;
    }

    int fewestLate() {
        int least = Integer.MAX_VALUE;
        for (List<Integer> order : allOrders()) {
            int end = 0, late = 0;
            for (int job : order) if ((end += jobs.get(job).length()) > jobs.get(job).due) late++;
            least = Math.min(least, late);
        }
        return least;
    }

    boolean isDropped(int asked) {
        jobThere(asked);
        List<Integer> byDue = new ArrayList<>();
        for (int job = 0; job < jobs.size(); job++) byDue.add(job);
        byDue.sort((a, b) -> jobs.get(a).due != jobs.get(b).due ? jobs.get(a).due - jobs.get(b).due : a - b);
        List<Integer> taken = new ArrayList<>();
        for (int job : byDue) {
            taken.add(job);
            int end = 0;
            for (int other : taken) end += jobs.get(other).length();
            if (end <= jobs.get(job).due) continue;
            Integer longest = taken.get(0);
            for (Integer other : taken) {
                int more = jobs.get(other).length() - jobs.get(longest).length();
                if (more > 0 || more == 0 && other > longest) longest = other;
            }
            taken.remove(longest);
        }
        return !taken.contains(asked);
    }

    int part(int job, int step) {
        return step < jobs.get(job).steps.size() ? jobs.get(job).steps.get(step)[1] : 0;
    }

    int leastEnd() {
        int least = Integer.MAX_VALUE;
        for (List<Integer> order : allOrders()) {
            int first = 0, second = 0, last = 0;
            for (int job : order) {
                first += part(job, 0);
                second = Math.max(first, second) + part(job, 1);
                last = Math.max(last, second);
            }
            least = Math.min(least, last);
        }
        return least;
    }

    int twoAt(int place) {
        index(in(place, 0, jobs.size() - 1));
        List<Integer> ahead = new ArrayList<>(), behind = new ArrayList<>();
        for (int job = 0; job < jobs.size(); job++) (part(job, 0) < part(job, 1) ? ahead : behind).add(job);
        ahead.sort((a, b) -> part(a, 0) - part(b, 0));
        behind.sort((a, b) -> part(b, 1) - part(a, 1));
        ahead.addAll(behind);
        return ahead.get(place);
    }

    int setupSum(List<Integer> order) {
        int sum = 0;
        for (int i = 1; i < order.size(); i++) sum += setups[jobs.get(order.get(i - 1)).kind][jobs.get(order.get(i)).kind];
        return sum;
    }

    List<Integer> setupOrder() {
        List<Integer> first = null;
        for (List<Integer> order : allOrders()) if (first == null || setupSum(order) < setupSum(first)) first = order;
        return first;
    }

    int leastSetup() { return setupSum(setupOrder()); }

    int setupAt(int place) {
        index(in(place, 0, jobs.size() - 1));
        return setupOrder().get(place);
    }

    /** All 7 to the power of 4 matches, with 6 for no worker, in the order in which they are told. */
    int[] told(int machines) {
        int[] told = null;
        int most = -1;
        for (int code = 0; code < 2401; code++) {
            int[] match = {code / 343, code / 49 % 7, code / 7 % 7, code % 7};
            int filled = 0;
            boolean fits = true;
            for (int machine = 0; machine < 4; machine++) {
                if (match[machine] == 6) continue;
                filled++;
                fits &= (machines >> machine & 1) == 1 && (workers[match[machine]] >> machine & 1) == 1;
                for (int other = 0; other < machine; other++) fits &= match[other] != match[machine];
            }
            if (fits && filled > most) {
                most = filled;
                told = match;
            }
        }
        return told;
    }

    int match(int machines) {
        argument(in(machines, 0, 15));
        int filled = 0;
        for (int worker : told(machines)) if (worker < 6) filled++;
        return filled;
    }

    int workerOf(int machines, int machine) {
        machineThere(machine);
        argument(in(machines, 0, 15));
        int worker = told(machines)[machine];
        return worker == 6 ? -1 : worker;
    }

    int promise(int job, int twice, int odds) {
        jobThere(job);
        argument(in(twice, 0, 1000) && in(odds, 1, 1000));
        List<int[]> steps = jobs.get(job).steps;
        BigInteger thousand = BigInteger.valueOf(1000);
        for (int hour = 0; ; hour++) {
            BigInteger ended = BigInteger.ZERO;
            for (int set = 0; set < 1 << steps.size(); set++) {
                int end = jobs.get(job).release;
                BigInteger part = BigInteger.ONE;
                for (int step = 0; step < steps.size(); step++) {
                    boolean isTwice = (set >> step & 1) == 1;
                    end += isTwice ? 2 * steps.get(step)[1] : steps.get(step)[1];
                    part = part.multiply(BigInteger.valueOf(isTwice ? twice : 1000 - twice));
                }
                if (end <= hour) ended = ended.add(part);
            }
            if (ended.multiply(thousand).compareTo(thousand.pow(steps.size()).multiply(BigInteger.valueOf(odds))) >= 0) return hour;
        }
    }

    int worked(int hour, int what) {
        argument(in(hour, 0, 5000) && in(what, 0, 2));
        planThere();
        int[][] begin = now();
        int sum = 0;
        for (int job = 0; job < jobs.size(); job++) {
            boolean ended = end(begin, job) <= hour;
            if (what == 1 && !ended || what == 2 && ended) continue;
            for (int step = 0; step < jobs.get(job).steps.size(); step++) {
                for (int at = begin[job][step]; at < begin[job][step] + hours(new int[] {job, step}); at++) if (at < hour) sum++;
            }
        }
        return sum;
    }

    double meanEnd() {
        planThere();
        return (double) valueOf(now(), 1) / (double) jobs.size();
    }

    float use(int machine) {
        machineThere(machine);
        planThere();
        int sum = 0;
        for (int[] entry : plan.get(machine)) sum += hours(entry);
        int end = valueOf(now(), 0);
        return end == 0 ? 0.0f : (float) sum / (float) end;
    }
}
