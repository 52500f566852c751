/** Sections 2, 3, 4, 9 and 11 of the terms: what decides between two that are alike but for one hour or one number, and between two that are alike in all. */
public final class TermsEdgesTest {
    private static final Rows rows = new Rows();

    public static void main(String[] args) {
        beginHours();
        leastHour();
        rulesByOne();
        ruleQuotients();
        bestRows();
        rushedOrders();
        matches();
        twoObjects();
        rows.finish();
    }

    /** Two jobs with one step each on machine 3, told by release, due hour, weight and hours; all else is ready at 20 there. */
    private static String two(String three, int hoursOfThree, String four, int hoursOfFour) {
        return "addJob(" + three + ")=3 addJob(" + four + ")=4 addStep(3,3," + hoursOfThree + ")=0 addStep(4,3," + hoursOfFour + ")=0 close(3,0,20)=1";
    }

    private static void beginHours() {
        rows.says("section 2: not ahead of the end of the step ahead of it in its job: it begins at that end");
        rows.run("tell(112233)=19 begin(0,1)=3 begin(1,1)=9 begin(2,1)=18");
        rows.says("section 2: not ahead of the end of the step ahead of it on its machine plus the set-up hours, plus the change hours, if the tool is changed");
        String two = "addJob(0,0,1,0)=3 addJob(0,0,1,1)=4 addStep(3,3,30)=0 addStep(4,3,20)=0 setSetup(0,1,3)=0 setSetup(1,0,7)=0";
        rows.run(two, "setTool(3,50,9)=0 tell(11223345)=53 begin(4,0)=33");
        rows.run(two, "setTool(3,50,9)=0 tell(11223354)=57 begin(3,0)=27");
        rows.run(two, "addStep(4,3,1)=1 setTool(3,50,9)=0 tell(112233455)=63 begin(4,0)=33 begin(4,1)=62");
        rows.says("section 2: the greatest of all these hours counts");
        rows.run("addJob(34,0,1,0)=3 addJob(33,0,1,1)=4 addStep(3,2,1)=0 addStep(4,3,20)=0 tell(11223345)=53 begin(4,0)=33 begin(3,0)=34");
        rows.says("section 2: the end of a plan is the greatest end of all jobs: that of the first, and that of the last one");
        rows.run("addStep(0,3,50)=2 plan(0)=57 endOf(0)=57");
        rows.run("addJob(0,0,1,0)=3 addStep(3,3,50)=0 plan(0)=50 endOf(3)=50");
    }

    private static void leastHour() {
        rows.says("section 3: the one with the least such hour is put there, ahead of the rule: one hour later is later");
        rows.run("addJob(1,0,9,0)=3 addStep(3,3,1)=0 addJob(0,1000,1,0)=4 addStep(4,3,50)=0 plan(3)=51 orderAt(3,0)=40 plan(0) orderAt(3,0)=40 plan(2) orderAt(3,0)=40");
        rows.run("addJob(0,0,9,0)=3 addStep(3,3,1)=0 addJob(0,1000,1,0)=4 addStep(4,3,50)=0 plan(3)=51 orderAt(3,0)=30");
        rows.says("section 3: the hour at which it would begin behind the order of its machine, with the set-up");
        rows.run("addJob(0,0,9,0)=3 addJob(0,0,8,1)=4 addJob(0,0,7,0)=5 addStep(3,3,5)=0 addStep(4,3,5)=0 addStep(5,3,5)=0 setSetup(0,1,1)=0 plan(3) orderAt(3,0)=30 orderAt(3,1)=50 orderAt(3,2)=40");
        rows.run("addJob(0,0,9,0)=3 addJob(0,0,8,1)=4 addJob(0,0,7,0)=5 addStep(3,3,5)=0 addStep(4,3,5)=0 addStep(5,3,5)=0 plan(3)=15 orderAt(3,0)=30 orderAt(3,1)=40 orderAt(3,2)=50");
        rows.says("section 3: the hour at which it would begin, with the change of the tool");
        rows.run("addJob(0,0,9,0)=3 addJob(0,0,8,0)=4 addJob(0,0,7,0)=5 addStep(3,3,40)=0 addStep(4,3,11)=0 addStep(5,3,10)=0 setTool(3,50,1)=0 plan(3)=62 orderAt(3,1)=50 orderAt(3,2)=40");
        rows.says("section 3: the hour at which it would begin, with the closures: what fits ahead of one goes ahead");
        rows.run("addJob(0,0,9,0)=3 addJob(0,0,8,0)=4 addStep(3,3,6)=0 addStep(4,3,5)=0 close(3,5,9)=1 plan(3)=15 orderAt(3,0)=40");
        rows.run("addJob(0,0,9,0)=3 addJob(0,0,8,0)=4 addStep(3,3,5)=0 addStep(4,3,5)=0 close(3,5,9)=1 plan(3)=14 orderAt(3,0)=30");
    }

    private static void rulesByOne() {
        rows.says("section 3: SHORTEST, fewest hours of the step first");
        rows.run(two("0,0,1,0", 6, "0,0,1,0", 5), "plan(0)=31 orderAt(3,0)=40");
        rows.run(two("0,0,1,0", 5, "0,0,1,0", 6), "plan(0)=31 orderAt(3,0)=30");
        rows.says("section 3: LONGEST, most hours of the step first");
        rows.run(two("0,0,1,0", 5, "0,0,1,0", 6), "plan(1)=31 orderAt(3,0)=40");
        rows.run(two("0,0,1,0", 6, "0,0,1,0", 5), "plan(1)=31 orderAt(3,0)=30");
        rows.says("section 3: DUE, the least due hour of the job first");
        rows.run(two("0,1,1,0", 5, "0,0,1,0", 5), "plan(2)=30 orderAt(3,0)=40");
        rows.run(two("0,1000,1,0", 5, "0,999,1,0", 5), "plan(2)=30 orderAt(3,0)=40");
        rows.run(two("0,0,1,0", 5, "0,1,1,0", 5), "plan(2)=30 orderAt(3,0)=30");
        rows.says("section 3: HEAVY, the greatest weight first");
        rows.run(two("0,0,8,0", 5, "0,0,9,0", 5), "plan(3)=30 orderAt(3,0)=40");
        rows.run(two("0,0,2,0", 5, "0,0,1,0", 5), "plan(3)=30 orderAt(3,0)=30");
        rows.says("section 3: MOST_LEFT, most hours of all steps of the job that are left first");
        rows.run(two("0,0,1,0", 5, "0,0,1,0", 5), "addStep(3,2,5)=1 addStep(4,2,6)=1 plan(4) orderAt(3,0)=40");
        rows.run(two("0,0,1,0", 5, "0,0,1,0", 6), "addStep(3,2,50)=1 addStep(4,2,49)=1 plan(4) orderAt(3,0)=30");
        rows.says("section 3: SLACK, the least difference of the due hour and these hours first, also below 0");
        rows.run(two("0,5,1,0", 5, "0,5,1,0", 6), "plan(5)=31 orderAt(3,0)=40");
        rows.run(two("0,1,1,0", 5, "0,0,1,0", 5), "plan(5)=30 orderAt(3,0)=40");
        rows.run(two("0,0,1,0", 5, "0,45,1,0", 50), "plan(5)=75 orderAt(3,0)=30");
        rows.run(two("0,0,1,0", 5, "0,45,1,0", 5), "addStep(4,2,46)=1 plan(5) orderAt(3,0)=40");
        rows.says("section 3: RELEASE, the least release first");
        rows.run(two("1,0,1,0", 5, "0,0,1,0", 5), "plan(7)=30 orderAt(3,0)=40");
        rows.run(two("20,0,1,0", 5, "19,0,1,0", 5), "plan(7)=30 orderAt(3,0)=40");
        rows.run(two("0,0,1,0", 5, "20,0,1,0", 5), "plan(7)=30 orderAt(3,0)=30");
    }

    private static void ruleQuotients() {
        rows.says("section 3: RATIO, the greatest quotient of the weight and the hours of the step first: not rounded");
        rows.run(two("0,0,1,0", 3, "0,0,2,0", 5), "plan(6)=28 orderAt(3,0)=40");
        rows.run(two("0,0,8,0", 45, "0,0,9,0", 50), "plan(6)=115 orderAt(3,0)=40");
        rows.run(two("0,0,8,0", 9, "0,0,9,0", 10), "plan(6)=39 orderAt(3,0)=40");
        rows.run(two("0,0,1,0", 50, "0,0,1,0", 49), "plan(6)=119 orderAt(3,0)=40");
        rows.says("section 3: RATIO: equal quotients of different numbers are equal, and the lowest job goes first");
        rows.run(two("0,0,1,0", 3, "0,0,3,0", 9), "plan(6)=32 orderAt(3,0)=30");
        rows.run(two("0,0,9,0", 45, "0,0,7,0", 35), "plan(6)=100 orderAt(3,0)=30");
        rows.run(two("0,0,2,0", 1, "0,0,4,0", 2), "plan(6)=23 orderAt(3,0)=30");
    }

    private static void bestRows() {
        rows.says("section 4: of all rows of job numbers that tell such a plan the first one, where all values are equal");
        rows.run("addJob(200,1000,1,0)=3 best(0)=200 orderAt(0,0)=0 orderAt(0,1)=11 orderAt(0,2)=20 orderAt(1,0)=1 orderAt(1,1)=10");
        rows.says("section 4: a plan with a value that is less by one goes ahead of an earlier row");
        rows.run("addJob(0,0,9,0)=3 addStep(3,0,1)=0 best(1)=31 orderAt(0,0)=30 orderAt(0,1)=0 value(4)=13");
        rows.says("section 4: exactly 8 steps, on one machine and of one more job");
        rows.run("addJob(0,0,1,0)=3 addStep(3,3,1)=0 addStep(3,3,1)=1 best(0)=12 best(3)=2 addStep(3,3,1)=2 best(3)!S");
    }

    private static void rushedOrders() {
        rows.says("section 11: its steps come first in the orders of all machines, in their own order");
        rows.run("tell(332211)=16 rush(0)=14 orderAt(0,0)=0 orderAt(0,1)=20 orderAt(0,2)=11 orderAt(1,0)=1 orderAt(1,1)=10 orderAt(2,0)=21");
        rows.says("section 11: of a rushed job behind another rushed one both keep their places");
        rows.run("tell(112233)=19 rush(1)=15 rush(2) orderAt(0,0)=20 orderAt(0,1)=11 orderAt(0,2)=0 orderAt(1,0)=10 orderAt(1,1)=1");
    }

    private static void matches() {
        rows.says("section 9: as many machines as possible get one goes ahead of the first worker");
        rows.run("setWorker(0,3)=0 setWorker(5,1)=0 match(3)=2 workerOf(3,0)=5 workerOf(3,1)=0");
        rows.run("setWorker(0,15)=0 setWorker(1,1)=0 setWorker(2,3)=0 setWorker(3,7)=0 match(15)=4 workerOf(15,0)=1 workerOf(15,1)=2 workerOf(15,2)=3 workerOf(15,3)=0");
        rows.says("section 9: a worker who can work at nothing is never told, one who can work at all is");
        rows.run("setWorker(0,0)=0 setWorker(1,15)=0 match(15)=1 workerOf(15,0)=1 workerOf(12,2)=1 workerOf(12,3)=-1");
    }

    private static void twoObjects() {
        rows.says("1: a new object has nothing of one that was made and used ahead of it");
        rows.run("addJob(0,0,1,0)=3 addStep(3,3,50)=0 close(0,0,9)=1 setTool(0,50,20)=0 setSetup(0,1,20)=0 setWorker(0,15)=0 plan(0)");
        rows.run("jobs()=3 undo()=-1 match(15)=0 close(0,0,9)=1 undo()=0 plan(0)=12 undo()=0 setTool(0,0,0)=0 setSetup(0,1,0)=0");
    }
}
