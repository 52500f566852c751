/** Promises 16 to 45: for each sentence that names a boundary case a test of its own, with answers worked out by hand. */
public final class QuestionsEdgesTest {
    private static final Rows rows = new Rows();
    private static final String SIX_JOBS = "addJob(0,0,1,0)=3 addJob(0,0,1,0)=4 addJob(0,0,1,0)=5";
    private static final String FIVE_STEPS = "addStep(0,3,1)=2 addStep(0,3,1)=3 addStep(0,3,1)=4";
    /** On machine 0 the jobs 0, 1 and 2 from 0, 9 and 14 on, on machine 1 the jobs 0 and 1 from 3 and 7 on, on machine 2 job 2 from 18 on. */
    private static final String TOLD = "tell(112233)=19";
    /** On machine 0 the jobs 0, 2 and 1 from 0, 3 and 7 on, on machine 1 the jobs 1 and 0 from 0 and 3 on, on machine 2 job 2 from 7 on. */
    private static final String PLANNED = "plan(0)=12";

    public static void main(String[] args) {
        jobs();
        jobAt();
        stepAt();
        begin();
        endOf();
        value();
        valueOfLateness();
        bound();
        orderAt();
        doneIn();
        way();
        wayAt();
        blocks();
        slackNumbers();
        slackHours();
        delay();
        leastSum();
        fewestLate();
        twoMachines();
        leastSetup();
        match();
        workerOf();
        promiseNumbers();
        promiseHours();
        worked();
        measures();
        errors();
        rows.finish();
    }

    private static String sixJobsOfFiveSteps() {
        StringBuilder calls = new StringBuilder("addJob(0,0,9,3)=3 addJob(0,0,9,3)=4 addJob(0,0,9,3)=5");
        for (int job = 0; job < 6; job++) {
            for (int step = job < 3 ? 2 : 0; step < 5; step++) calls.append(" addStep(").append(job).append(",3,50)=").append(step);
        }
        return calls.toString();
    }

    private static void jobs() {
        rows.says("16: returns 3 to 6");
        rows.run("jobs()=3 addJob(0,0,1,0) jobs()=4 cut(0)=4 jobs()=5 addJob(0,0,1,0) jobs()=6 addJob(0,0,1,0)!S cut(0)!S jobs()=6 undo() jobs()=5 undo() jobs()=4 undo() jobs()=3 undo()=-1 jobs()=3");
    }

    private static void jobAt() {
        rows.says("17: IndexOutOfBoundsException if there is no such job");
        rows.run("jobAt(0,0)=0 jobAt(2,1)=10 jobAt(-1,0)!I jobAt(3,0)!I jobAt(LOW,0)!I jobAt(HIGH,0)!I");
        rows.run(SIX_JOBS, "jobAt(5,2)=1 jobAt(6,2)!I undo() jobAt(5,2)!I jobAt(4,2)=1");
        rows.says("17: what: 0 to 5; IllegalArgumentException if what is out of range");
        rows.run("jobAt(1,0)=0 jobAt(1,5)=7 jobAt(1,-1)!A jobAt(1,6)!A jobAt(1,LOW)!A jobAt(1,HIGH)!A");
        rows.says("17, section 12: IndexOutOfBoundsException is listed first");
        rows.run("jobAt(3,6)!I jobAt(-1,-1)!I");
        rows.says("17: the least and the greatest release, due hour, weight, kind, number of steps and length");
        rows.run("addJob(0,0,1,0)=3 jobAt(3,0)=0 jobAt(3,1)=0 jobAt(3,2)=1 jobAt(3,3)=0 jobAt(3,4)=0 jobAt(3,5)=0");
        rows.run("addJob(200,1000,9,3)=3 addStep(3,0,50) addStep(3,1,50) addStep(3,2,50) addStep(3,3,50) addStep(3,0,50)",
            "jobAt(3,0)=200 jobAt(3,1)=1000 jobAt(3,2)=9 jobAt(3,3)=3 jobAt(3,4)=5 jobAt(3,5)=250");
    }

    private static void stepAt() {
        rows.says("18: IndexOutOfBoundsException if there is no such job");
        rows.run("stepAt(0,0,0)=0 stepAt(2,0,0)=0 stepAt(-1,0,0)!I stepAt(3,0,0)!I stepAt(LOW,0,0)!I stepAt(HIGH,0,0)!I");
        rows.says("18: IndexOutOfBoundsException if there is no such step: step: number of a step of it");
        rows.run("stepAt(1,0,1)=2 stepAt(1,1,1)=5 stepAt(1,-1,1)!I stepAt(1,2,1)!I stepAt(1,LOW,1)!I stepAt(1,HIGH,1)!I");
        rows.run(FIVE_STEPS, "stepAt(0,4,0)=3 stepAt(0,4,1)=1 stepAt(0,5,0)!I stepAt(1,2,0)!I");
        rows.run("addJob(0,0,1,0)=3 stepAt(3,0,0)!I stepAt(2,-1,0)!I stepAt(2,5,0)!I");
        rows.says("18: what: 0 its machine, 1 its hours; IllegalArgumentException if what is out of range");
        rows.run("stepAt(2,1,0)=2 stepAt(2,1,1)=1 stepAt(2,1,-1)!A stepAt(2,1,2)!A stepAt(2,1,LOW)!A stepAt(2,1,HIGH)!A");
        rows.says("18, section 12: IndexOutOfBoundsException is listed first");
        rows.run("stepAt(3,0,2)!I stepAt(0,2,2)!I stepAt(-1,-1,-1)!I");
    }

    private static void begin() {
        rows.says("19: IndexOutOfBoundsException if there is no such job");
        rows.run(PLANNED, "begin(0,0)=0 begin(2,0)=3 begin(-1,0)!I begin(3,0)!I begin(LOW,0)!I begin(HIGH,0)!I");
        rows.says("19: IndexOutOfBoundsException if there is no such step");
        rows.run(PLANNED, "begin(0,1)=3 begin(0,-1)!I begin(0,2)!I begin(0,LOW)!I begin(0,HIGH)!I begin(1,5)!I");
        rows.run("addJob(0,0,1,0)=3", PLANNED, "begin(3,0)!I");
        rows.says("19: IllegalStateException if there is no plan");
        rows.run("begin(0,0)!S begin(2,1)!S", PLANNED, "begin(2,1)=7 undo()=0 begin(2,1)!S");
        rows.says("19, section 12: IndexOutOfBoundsException is listed ahead of IllegalStateException");
        rows.run("begin(3,0)!I begin(0,2)!I begin(-1,0)!I");
        rows.says("19, section 2: not ahead of the release of its job: the latest release, and one that another step's end meets");
        rows.run("addJob(200,0,1,0)=3 addStep(3,3,1)=0 plan(0)=201 begin(3,0)=200");
        rows.run("addJob(12,0,1,0)=3 addStep(3,0,1)=0 tell(1122334)=19 begin(3,0)=18");
        rows.run("addJob(18,0,1,0)=3 addStep(3,0,1)=0 tell(1122334)=19 begin(3,0)=18");
        rows.run("addJob(19,0,1,0)=3 addStep(3,0,1)=0 tell(1122334)=20 begin(3,0)=19");
    }

    private static void endOf() {
        rows.says("20: IndexOutOfBoundsException if there is no such job");
        rows.run(PLANNED, "endOf(0)=7 endOf(1)=12 endOf(2)=8 endOf(-1)!I endOf(3)!I endOf(LOW)!I endOf(HIGH)!I");
        rows.says("20: IllegalStateException if there is no plan");
        rows.run("endOf(0)!S endOf(2)!S", PLANNED, "addStep(0,3,1)=2 endOf(1)!S");
        rows.says("20, section 12: IndexOutOfBoundsException is listed ahead of IllegalStateException");
        rows.run("endOf(3)!I endOf(-1)!I");
        rows.says("20, section 2: the end of a job is its release without steps");
        rows.run("addJob(0,0,1,0)=3 addJob(200,0,1,0)=4 plan(0)=200 endOf(3)=0 endOf(4)=200");
        rows.says("20, section 2: the end of a plan is the greatest end of all jobs, one without steps too");
        rows.run("addJob(12,0,1,0)=3", PLANNED, "value(0)=12");
        rows.run("addJob(13,0,1,0)=3 plan(0)=13 value(0)=13");
    }

    private static void value() {
        rows.says("21: aim: END to TARDINESS; IllegalArgumentException if there is no such aim");
        rows.run(PLANNED, "value(0)=12 value(1)=27 value(2)=3 value(3)=1 value(4)=3 value(-1)!A value(5)!A value(LOW)!A value(HIGH)!A");
        rows.says("21: IllegalStateException if there is no plan");
        rows.run("value(0)!S value(4)!S", PLANNED, "undo()=0 value(0)!S");
        rows.says("21, section 12: IllegalArgumentException is listed ahead of IllegalStateException");
        rows.run("value(-1)!A value(5)!A");
        rows.says("21: the values of a plan that ends behind the latest closure, with the greatest weight");
        rows.run("addJob(200,0,9,0)=3 addStep(3,3,50)=0 close(3,0,2000)=1 plan(0)=2050 value(0)=2050 value(1)=2077 value(2)=2050 value(3)=2 value(4)=18453");
    }

    private static void valueOfLateness() {
        rows.says("21, section 2: it is late if its lateness is above 0: at its due hour it is not");
        rows.run("addJob(0,12,9,0)=3 addStep(3,3,12)=0", PLANNED, "endOf(3)=12 value(3)=1 value(4)=3");
        rows.run("addJob(0,11,9,0)=3 addStep(3,3,12)=0", PLANNED, "endOf(3)=12 value(3)=2 value(4)=12");
        rows.run("addJob(0,13,9,0)=3 addStep(3,3,12)=0", PLANNED, "value(3)=1 value(4)=3");
        rows.says("21, section 2: a job without steps is late if its release is behind its due hour");
        rows.run("addJob(200,200,9,0)=3 plan(0)=200 value(2)=3 value(3)=1 value(4)=3");
        rows.run("addJob(200,199,9,0)=3 plan(0)=200 value(2)=3 value(3)=2 value(4)=12");
        rows.run("addJob(200,0,9,0)=3 plan(0)=200 value(2)=200 value(3)=2 value(4)=1803");
        rows.says("21, section 4: the greatest lateness of all jobs, also if it is that of the first or the last one");
        rows.run("addJob(0,1000,1,0)=3 tell(332211)=16 value(2)=4");
        rows.run("addJob(9,5,1,0)=3", PLANNED, "value(2)=4");
    }

    private static void bound() {
        rows.says("22: for each machine, the hours of all its steps");
        rows.run("bound()=12 addStep(0,0,1)=2 bound()=13 addStep(2,2,50)=2 bound()=55");
        rows.run(sixJobsOfFiveSteps(), "bound()=1200");
        rows.says("22: for each job, its release and its length");
        rows.run("addJob(5,0,1,0)=3 addStep(3,3,7)=0 bound()=12 addStep(3,2,1)=1 bound()=13");
        rows.run("addStep(0,3,6)=2 bound()=13 addStep(1,3,7)=2 bound()=14 addStep(2,1,10)=2 bound()=16");
        rows.run("addJob(200,0,1,0)=3 bound()=200 addStep(3,3,50) bound()=250 addStep(3,2,50) addStep(3,1,50) addStep(3,0,50) addStep(3,3,50) bound()=450");
        rows.says("22: a job of the release 0 and without steps does not count");
        rows.run("addJob(0,0,1,0)=3 bound()=12");
        rows.says("22: also without a plan, and the same with one");
        rows.run("bound()=12", TOLD, "bound()=12 close(0,0,2000)=1 setTool(0,50,20)=0 bound()=12");
    }

    private static void orderAt() {
        rows.says("23: IndexOutOfBoundsException if there is no such machine");
        rows.run(TOLD, "orderAt(0,0)=0 orderAt(-1,0)!I orderAt(4,0)!I orderAt(LOW,0)!I orderAt(HIGH,0)!I");
        rows.says("23: IndexOutOfBoundsException if there is no such place; place: from 0");
        rows.run(TOLD, "orderAt(0,0)=0 orderAt(0,1)=11 orderAt(0,2)=20 orderAt(0,-1)!I orderAt(0,3)!I orderAt(0,LOW)!I orderAt(0,HIGH)!I");
        rows.run(TOLD, "orderAt(1,0)=1 orderAt(1,1)=10 orderAt(1,2)!I orderAt(2,0)=21 orderAt(2,1)!I orderAt(2,-1)!I");
        rows.says("23: a machine without steps has no place");
        rows.run(TOLD, "orderAt(3,0)!I orderAt(3,-1)!I");
        rows.says("23: also without a plan");
        rows.run("orderAt(0,0)!I orderAt(1,1)!I orderAt(4,0)!I", TOLD, "orderAt(0,0)=0 setSetup(0,0,0)=0 orderAt(0,0)!I");
        rows.says("23: 10 times its job, and the step: the greatest ones");
        rows.run("addJob(0,0,1,0)=3 addJob(0,0,1,0)=4 addJob(0,0,1,0)=5 addStep(5,3,1) addStep(5,3,1) addStep(5,3,1) addStep(5,3,1) addStep(5,3,1) plan(0)=12 orderAt(3,0)=50 orderAt(3,4)=54 orderAt(3,5)!I");
    }

    private static void doneIn() {
        rows.says("24: IndexOutOfBoundsException if there is no such machine");
        rows.run(TOLD, "doneIn(0,0)=0 doneIn(3,0)=-1 doneIn(-1,0)!I doneIn(4,0)!I doneIn(LOW,0)!I doneIn(HIGH,0)!I");
        rows.says("24: hour: 0 to 5000");
        rows.run(TOLD, "doneIn(0,0)=0 doneIn(0,5000)=-1 doneIn(0,-1)!A doneIn(0,5001)!A doneIn(0,LOW)!A doneIn(0,HIGH)!A");
        rows.says("24: IllegalStateException if there is no plan");
        rows.run("doneIn(0,0)!S doneIn(3,5000)!S");
        rows.says("24, section 12: IndexOutOfBoundsException is listed first, then IllegalArgumentException");
        rows.run("doneIn(4,5001)!I doneIn(-1,-1)!I doneIn(4,0)!I doneIn(0,-1)!A doneIn(0,5001)!A");
        rows.says("24: the hour in which a step begins, its last one, and the one in which it has ended");
        rows.run(TOLD, "doneIn(0,2)=0 doneIn(0,3)=-1 doneIn(0,8)=-1 doneIn(0,9)=1 doneIn(0,13)=1 doneIn(0,14)=2 doneIn(0,17)=2 doneIn(0,18)=-1");
        rows.says("24: a step of a single hour");
        rows.run(TOLD, "doneIn(2,17)=-1 doneIn(2,18)=2 doneIn(2,19)=-1");
        rows.says("24: NONE if there is none: a machine without steps, a closure");
        rows.run(TOLD, "doneIn(3,0)=-1 doneIn(3,18)=-1 close(0,0,2000)=1 doneIn(0,1999)=-1 doneIn(0,2000)=0 doneIn(0,2002)=0 doneIn(0,2003)=-1");
    }

    private static void way() {
        rows.says("25: IllegalStateException if there is no plan");
        rows.run("wayLength()!S", PLANNED, "wayLength()=3 addJob(0,0,1,0)=3 wayLength()!S");
        rows.says("25: the number of steps of the longest way: a single one, and all of them");
        rows.run("addJob(0,0,1,0)=3 addStep(3,3,50)=0 plan(0)=50 wayLength()=1 wayAt(0)=30");
        rows.run(TOLD, "wayLength()=6");
        rows.run(sixJobsOfFiveSteps(), "plan(3) wayLength() wayAt(0) blocks() longestBlock() setTool(3,50,20)=0 wayLength() blocks()=1");
        rows.says("25, section 5: its last step is the one with the greatest end, of several that of the lowest job");
        rows.run("addJob(0,0,1,0)=3 addStep(3,3,12)=0", PLANNED, "wayLength()=3 wayAt(2)=11");
        rows.run("addJob(0,0,1,0)=3 addStep(3,3,13)=0 plan(0)=13 wayLength()=1 wayAt(0)=30");
        rows.run("addStep(0,3,5)=2", PLANNED, "endOf(0)=12 endOf(1)=12 wayLength()=3 wayAt(0)=0 wayAt(1)=1 wayAt(2)=2");
        rows.says("25, section 5: the step ahead in its job, if this ends when the step begins, goes ahead of the one on its machine");
        rows.run("addJob(0,0,1,0)=3 addStep(3,3,7)=0 addStep(3,1,9)=1 plan(0)=16 begin(3,1)=7 wayLength()=2 wayAt(0)=30 wayAt(1)=31");
        rows.says("25, section 5: otherwise the one ahead of it on its machine, if the step begins at its end plus the set-up and change hours");
        rows.run("setSetup(0,1,5)=0 tell(112233)=24 wayLength()=6 wayAt(1)=1 wayAt(2)=10");
        rows.run("addJob(0,0,1,3)=3 addStep(3,3,30)=0 addStep(3,3,30)=1 setSetup(3,3,20)=0 setTool(3,50,20)=0 plan(0)=100 wayLength()=2 wayAt(0)=30 wayAt(1)=31");
        rows.says("25, section 5: otherwise the way begins with this step: it waits for its release, or for a closure");
        rows.run("addJob(13,0,1,0)=3 addStep(3,0,3)=0 plan(0)=16 begin(3,0)=13 wayLength()=1 wayAt(0)=30");
        rows.run("addJob(12,0,1,0)=3 addStep(3,0,3)=0 plan(0)=15 begin(3,0)=12 wayLength()=4 wayAt(3)=30 wayAt(2)=11");
        rows.run(PLANNED, "close(0,7,8)=1 begin(1,1)=8 wayLength()=1 wayAt(0)=11");
        rows.says("25: a job without steps that ends last is not in the way");
        rows.run("addJob(200,0,1,0)=3 plan(0)=200 wayLength()=3 wayAt(2)=11");
    }

    private static void wayAt() {
        rows.says("26: IndexOutOfBoundsException if there is no such place; place: from 0, from its begin on");
        rows.run(PLANNED, "wayAt(0)=0 wayAt(1)=20 wayAt(2)=11 wayAt(3)!I wayAt(-1)!I wayAt(LOW)!I wayAt(HIGH)!I");
        rows.run(TOLD, "wayAt(0)=0 wayAt(1)=1 wayAt(2)=10 wayAt(3)=11 wayAt(4)=20 wayAt(5)=21 wayAt(6)!I wayAt(-1)!I");
        rows.says("26: also without a plan");
        rows.run("wayAt(0)!I wayAt(-1)!I", PLANNED, "wayAt(0)=0 setSetup(0,0,0)=0 wayAt(0)!I undo()=1 wayAt(0)=0 undo()=0 wayAt(0)!I");
    }

    private static void blocks() {
        rows.says("27: IllegalStateException if there is no plan");
        rows.run("blocks()!S", PLANNED, "blocks()=1 undo()=0 blocks()!S");
        rows.says("28: IllegalStateException if there is no plan");
        rows.run("longestBlock()!S", PLANNED, "longestBlock()=3 undo()=0 longestBlock()!S");
        rows.says("27, 28, section 5: blocks are the longest pieces of steps, one behind the other, on the same machine: one piece, pieces of one and of two");
        rows.run(PLANNED, "blocks()=1 longestBlock()=3");
        rows.run(TOLD, "blocks()=4 longestBlock()=2");
        rows.run(PLANNED, "longestBlock()=3 tell(112233)=19 longestBlock()=2 blocks()=4 undo()=1 blocks()=1 longestBlock()=3");
        rows.says("27, 28: a way of a single step is one block of one");
        rows.run("addJob(0,0,1,0)=3 addStep(3,3,50)=0 plan(0)=50 blocks()=1 longestBlock()=1");
        rows.says("27, 28: a way on two machines in turn, and one that comes back to a machine");
        rows.run("addJob(0,0,1,0)=3 addStep(3,3,5)=0 addStep(3,2,5)=1 addStep(3,3,5)=2 addStep(3,3,5)=3 plan(0)=20 wayLength()=4 blocks()=3 longestBlock()=2");
    }

    private static void slackNumbers() {
        rows.says("29: IndexOutOfBoundsException if there is no such job");
        rows.run(PLANNED, "slack(0,1)=5 slack(2,1)=4 slack(-1,0)!I slack(3,0)!I slack(LOW,0)!I slack(HIGH,0)!I");
        rows.says("29: IndexOutOfBoundsException if there is no such step");
        rows.run(PLANNED, "slack(1,0)=5 slack(1,1)=0 slack(1,-1)!I slack(1,2)!I slack(1,LOW)!I slack(1,HIGH)!I");
        rows.run("addJob(0,0,1,0)=3", PLANNED, "slack(3,0)!I");
        rows.says("29: IllegalStateException if there is no plan");
        rows.run("slack(0,0)!S slack(2,1)!S");
        rows.says("29, section 12: IndexOutOfBoundsException is listed ahead of IllegalStateException");
        rows.run("slack(3,0)!I slack(0,2)!I");
    }

    private static void slackHours() {
        rows.says("29: returns 0 to 1000: 0 for a step that holds all up");
        rows.run(PLANNED, "slack(0,0)=0 slack(2,0)=0 slack(1,1)=0");
        rows.says("29: returns 0 to 1000: 999, 1000, and 1000 where there are more");
        String oneStep = "addJob(0,0,1,0)=3 addStep(3,3,1)=0";
        rows.run(oneStep, "close(3,0,1006)=1 plan(0)=1007 begin(2,1)=7 slack(2,1)=999");
        rows.run(oneStep, "close(3,0,1007)=1 plan(0)=1008 begin(2,1)=7 slack(2,1)=1000");
        rows.run(oneStep, "close(3,0,1008)=1 plan(0)=1009 begin(2,1)=7 slack(2,1)=1000");
        rows.run(oneStep, "close(3,0,518)=1 plan(0)=519 slack(2,1)=511 undo() undo() close(3,0,519)=1 plan(0)=520 slack(2,1)=512 undo() undo() close(3,0,520)=1 plan(0)=521 slack(2,1)=513");
        rows.run(oneStep, "close(3,0,2000)=1 plan(0)=2001 slack(2,1)=1000 slack(0,1)=1000 slack(3,0)=0");
        rows.says("29, section 5: it begins at the first hour that is at least so much later and fits");
        rows.run(PLANNED, "close(2,10,12)=1 slack(2,1)=2 undo()=1 close(2,9,11)=1 slack(2,1)=4 undo()=1 close(2,8,12)=1 slack(2,1)=0");
        rows.says("29, section 5: without making the end of the plan greater; a job without steps can be that end");
        rows.run("addJob(20,0,1,0)=3 plan(0)=20 slack(1,1)=8 slack(2,1)=12");
        rows.says("29, section 5: all other steps begin as told: set-ups and tools count");
        rows.run("addJob(0,0,1,3)=3 addStep(3,3,30)=0 addStep(3,3,30)=1 addJob(110,0,1,3)=4 setSetup(3,3,20)=0 setTool(3,50,20)=0 plan(0)=110 slack(3,0)=10 slack(3,1)=10");
        rows.says("29: asking changes nothing");
        rows.run(PLANNED, "slack(0,1)=5 slack(0,1)=5 begin(0,1)=3 value(0)=12 undo()=0");
    }

    private static void delay() {
        rows.says("30: IndexOutOfBoundsException if there is no such job: rushed");
        rows.run(TOLD, "delay(0,0)=0 delay(2,0)=4 delay(-1,0)!I delay(3,0)!I delay(LOW,0)!I delay(HIGH,0)!I");
        rows.says("30: IndexOutOfBoundsException if there is no such job: job");
        rows.run(TOLD, "delay(2,1)=4 delay(0,-1)!I delay(0,3)!I delay(0,LOW)!I delay(0,HIGH)!I");
        rows.says("30: IllegalStateException if there is no plan");
        rows.run("delay(0,1)!S delay(2,2)!S");
        rows.says("30, section 12: IndexOutOfBoundsException is listed ahead of IllegalStateException");
        rows.run("delay(3,0)!I delay(0,3)!I delay(-1,-1)!I");
        rows.says("30: below 0 if it would end earlier; 0 if nothing is different");
        rows.run(TOLD, "delay(2,2)=-14 delay(1,1)=-7 delay(1,2)=-4 delay(0,1)=0");
        rows.says("30: a job without steps, rushed or not");
        rows.run("addJob(7,0,1,0)=3", TOLD, "delay(3,0)=0 delay(3,3)=0 delay(2,3)=0");
        rows.says("30: asking changes nothing");
        rows.run(TOLD, "delay(2,0)=4 orderAt(0,0)=0 value(0)=19 undo()=0 undo()=-1");
    }

    private static void leastSum() {
        rows.says("31, section 6: releases, closures, set-ups and tools do not count; also without a plan");
        rows.run("leastSum()=36 addJob(200,0,1,0)=3 leastSum()=36 close(0,0,2000) setSetup(0,1,20) setTool(0,50,20) leastSum()=36");
        rows.says("31, section 6: a job is one piece, with its length");
        rows.run("addJob(0,0,1,0)=3 addStep(3,3,20)=0 leastSum()=75 addStep(0,3,50)=2 leastSum()=138");
        rows.says("31: six jobs of the greatest lengths");
        rows.run(sixJobsOfFiveSteps(), "leastSum()=3843");
        rows.says("32, section 6: the least greatest lateness, of three jobs and of six of the greatest lengths");
        rows.run("leastLateness()=7 addJob(200,1000,1,0)=3 leastLateness()=7");
        rows.run(sixJobsOfFiveSteps(), "leastLateness()=1207");
        rows.says("32: a job without steps at its due hour 0 is not late");
        rows.run("addJob(200,0,1,0)=3 leastLateness()=7 isDropped(3)=false fewestLate()=1");
    }

    private static void fewestLate() {
        rows.says("33, section 6: a job is dropped when the latest one taken would end behind its due hour, not at it");
        rows.run("fewestLate()=1 isDropped(0)=false addStep(2,3,1)=2 fewestLate()=2");
        rows.run("addJob(0,0,1,0)=3 addStep(3,3,1)=0 isDropped(3)=true");
        rows.run("addJob(0,1,1,0)=3 addStep(3,3,1)=0 isDropped(3)=false");
        rows.says("33: none of six jobs but one, and all six");
        rows.run(SIX_JOBS, "fewestLate()=1 isDropped(1)=true isDropped(3)=false isDropped(5)=false");
        rows.run(sixJobsOfFiveSteps(), "fewestLate()=6 isDropped(0)=true isDropped(1)=true isDropped(2)=true isDropped(3)=true isDropped(4)=true isDropped(5)=true");
        rows.says("33, 34, section 6: of several longest ones the one with the greatest number is dropped");
        rows.run("addStep(0,3,30)=2 fewestLate()=2 isDropped(0)=true isDropped(1)=true isDropped(2)=false");
        rows.run("addStep(2,2,2)=2 fewestLate()=2 isDropped(0)=false isDropped(1)=true isDropped(2)=true");
        rows.says("33, 34, section 6: jobs with equal due hours are taken by their numbers");
        rows.run("addJob(0,19,1,0)=3 addStep(3,3,7)=0 addJob(0,19,1,0)=4 addStep(4,3,7)=0 fewestLate()=2 isDropped(3)=false isDropped(4)=true");
        rows.says("34: IndexOutOfBoundsException if there is no such job");
        rows.run("isDropped(0)=false isDropped(2)=false isDropped(-1)!I isDropped(3)!I isDropped(LOW)!I isDropped(HIGH)!I");
        rows.run(SIX_JOBS, "isDropped(5)=false isDropped(6)!I");
    }

    private static void twoMachines() {
        rows.says("35, section 6: the least end on two machines, of three jobs and of six of the greatest hours");
        rows.run("leastEnd()=12", SIX_JOBS, "leastEnd()=12 addStep(3,3,50) addStep(3,3,50) addStep(4,3,50) addStep(4,3,50) addStep(5,3,50) addStep(5,3,50) leastEnd()=206",
            "twoAt(0)=1 twoAt(1)=0 twoAt(2)=3 twoAt(3)=4 twoAt(4)=5 twoAt(5)=2");
        rows.says("35, section 6: the hours of the steps 0 and 1, 0 for a step that is not there: no step, and a single one");
        rows.run("addJob(0,0,1,0)=3 leastEnd()=12 twoAt(2)=2 twoAt(3)=3 addStep(3,3,20)=0 leastEnd()=29 twoAt(2)=2 twoAt(3)=3");
        rows.says("35, section 6: steps behind the step 1 do not count");
        rows.run("addStep(2,3,50)=2 addStep(0,0,50)=2 leastEnd()=12 twoAt(0)=1");
        rows.says("36, section 6: first those whose first hours are less than their second hours; with equal hours a job is one of the others");
        rows.run("addJob(0,0,1,0)=3 addStep(3,3,1)=0 addStep(3,3,1)=1 twoAt(0)=1 twoAt(1)=0 twoAt(2)=2 twoAt(3)=3");
        rows.run("addJob(0,0,1,0)=3 addStep(3,3,1)=0 addStep(3,3,2)=1 twoAt(0)=3 twoAt(1)=1 twoAt(2)=0 twoAt(3)=2");
        rows.says("36, section 6: ascending first hours, then descending second hours; equal ones by their numbers");
        rows.run("addJob(0,0,1,0)=3 addStep(3,3,3)=0 addStep(3,3,9)=1 twoAt(0)=1 twoAt(1)=0 twoAt(2)=3 twoAt(3)=2");
        rows.run("addJob(0,0,1,0)=3 addStep(3,3,50)=0 addStep(3,3,2)=1 twoAt(2)=3 twoAt(3)=2");
        rows.run("addJob(0,0,1,0)=3 addStep(3,3,50)=0 addStep(3,3,1)=1 twoAt(2)=2 twoAt(3)=3");
        rows.run("addJob(0,0,1,0)=3 addStep(3,3,50)=0 addStep(3,3,50)=1 addJob(0,0,1,0)=4 addStep(4,3,40)=0 addStep(4,3,50)=1 twoAt(2)=4 twoAt(3)=3 twoAt(4)=2");
        rows.run("addJob(0,0,1,0)=3 addStep(3,3,50)=0 addStep(3,3,50)=1 addJob(0,0,1,0)=4 addStep(4,3,49)=0 addStep(4,3,50)=1 twoAt(2)=4 twoAt(3)=3 twoAt(4)=2");
        rows.says("36: IndexOutOfBoundsException if there is no such place; place: from 0");
        rows.run("twoAt(0)=1 twoAt(1)=0 twoAt(2)=2 twoAt(3)!I twoAt(-1)!I twoAt(LOW)!I twoAt(HIGH)!I");
        rows.run(SIX_JOBS, "twoAt(5)=5 twoAt(6)!I twoAt(-1)!I");
    }

    private static void leastSetup() {
        rows.says("37, section 7: the least sum of set-up hours over all orders: none, and the greatest");
        rows.run("leastSetup()=0");
        StringBuilder all = new StringBuilder(SIX_JOBS);
        for (int pair = 0; pair < 16; pair++) all.append(" setSetup(").append(pair / 4).append(',').append(pair % 4).append(",20)=0");
        rows.run(all.toString(), "leastSetup()=100 setupAt(0)=0 setupAt(1)=1 setupAt(2)=2 setupAt(3)=3 setupAt(4)=4 setupAt(5)=5");
        rows.says("38, section 7: of several orders the first one, by job numbers");
        rows.run("setupAt(0)=0 setupAt(1)=1 setupAt(2)=2 setSetup(0,1,1)=0 leastSetup()=0 setupAt(0)=0 setupAt(1)=2 setupAt(2)=1");
        rows.run("setSetup(0,1,2)=0 setSetup(0,2,3)=0 setSetup(1,2,4)=0 setSetup(2,1,5)=0 leastSetup()=2 setupAt(0)=2 setupAt(1)=0 setupAt(2)=1");
        rows.says("37, section 7: a set-up from a kind to itself counts, ahead of the first job there is none");
        rows.run("setSetup(0,0,20)=0 setSetup(1,1,20)=0 setSetup(2,2,20)=0 leastSetup()=0 addJob(0,0,1,0)=3 leastSetup()=0 setupAt(0)=0 setupAt(1)=1 setupAt(2)=2 setupAt(3)=3");
        rows.says("38: IndexOutOfBoundsException if there is no such place; place: from 0");
        rows.run("setupAt(0)=0 setupAt(2)=2 setupAt(3)!I setupAt(-1)!I setupAt(LOW)!I setupAt(HIGH)!I");
        rows.run(SIX_JOBS, "setupAt(5)=5 setupAt(6)!I setupAt(-1)!I");
    }

    private static void match() {
        rows.says("39: machines: a set of machines, 0 to 15");
        rows.run("setWorker(0,15)=0 match(0)=0 match(15)=1 match(-1)!A match(16)!A match(LOW)!A match(HIGH)!A");
        rows.says("39, section 9: as many machines as possible get one: from none to all 4");
        rows.run("match(15)=0 setWorker(5,15)=0 match(15)=1 setWorker(4,15)=0 match(15)=2 setWorker(3,15)=0 match(15)=3 setWorker(2,15)=0 match(15)=4 setWorker(1,15)=0 match(15)=4 setWorker(0,15)=0 match(15)=4",
            "match(7)=3 match(8)=1 match(0)=0");
        rows.says("39, section 9: each machine gets at most one worker, each worker at most one machine");
        rows.run("setWorker(0,1)=0 setWorker(1,1)=0 setWorker(2,1)=0 match(1)=1 match(15)=1 setWorker(3,14)=0 match(15)=2 match(14)=1");
        rows.says("39, section 9: only a worker who can work at it");
        rows.run("setWorker(0,8)=0 match(7)=0 match(8)=1 match(15)=1");
    }

    private static void workerOf() {
        rows.says("40: IndexOutOfBoundsException if there is no such machine");
        rows.run("setWorker(5,9)=0 workerOf(1,0)=5 workerOf(8,3)=5 workerOf(15,-1)!I workerOf(15,4)!I workerOf(15,LOW)!I workerOf(15,HIGH)!I");
        rows.says("40: machines: a set of machines, 0 to 15");
        rows.run("setWorker(0,15)=0 workerOf(0,0)=-1 workerOf(15,0)=0 workerOf(-1,0)!A workerOf(16,0)!A workerOf(LOW,0)!A workerOf(HIGH,0)!A");
        rows.says("40, section 12: IndexOutOfBoundsException is listed first");
        rows.run("workerOf(16,4)!I workerOf(-1,-1)!I");
        rows.says("40: NONE if it has none");
        rows.run("workerOf(15,0)=-1 setWorker(1,15)=0 workerOf(15,0)=1 workerOf(15,1)=-1 workerOf(15,2)=-1 workerOf(15,3)=-1");
        rows.says("40: NONE if it is not in the set");
        rows.run("setWorker(1,15)=0 workerOf(14,0)=-1 workerOf(14,1)=1 workerOf(8,3)=1 workerOf(8,0)=-1 workerOf(7,3)=-1");
        rows.says("40, section 9: the first one, by the workers of the machines in ascending order");
        rows.run("setWorker(0,15)=0 setWorker(1,15)=0 setWorker(2,15)=0 setWorker(3,15)=0 setWorker(4,15)=0 setWorker(5,15)=0 workerOf(15,0)=0 workerOf(15,1)=1 workerOf(15,2)=2 workerOf(15,3)=3 workerOf(10,1)=0 workerOf(10,3)=1");
        rows.run("setWorker(5,1)=0 setWorker(0,3)=0 workerOf(3,0)=5 workerOf(3,1)=0 workerOf(1,0)=0 workerOf(2,1)=0");
        rows.says("40, section 9: to have no worker comes behind all workers");
        rows.run("setWorker(5,3)=0 workerOf(3,0)=5 workerOf(3,1)=-1");
    }

    private static void promiseNumbers() {
        rows.says("41: IndexOutOfBoundsException if there is no such job");
        rows.run("promise(0,0,1)=7 promise(2,0,1)=5 promise(-1,0,1)!I promise(3,0,1)!I promise(LOW,0,1)!I promise(HIGH,0,1)!I");
        rows.says("41: twice: 0 to 1000");
        rows.run("promise(0,0,500)=7 promise(0,1000,500)=14 promise(0,-1,500)!A promise(0,1001,500)!A promise(0,LOW,500)!A promise(0,HIGH,500)!A");
        rows.says("41: odds: 1 to 1000");
        rows.run("promise(0,500,1)=7 promise(0,500,1000)=14 promise(0,500,0)!A promise(0,500,1001)!A promise(0,500,-1)!A promise(0,500,LOW)!A promise(0,500,HIGH)!A");
        rows.says("41, section 12: IndexOutOfBoundsException is listed first");
        rows.run("promise(3,-1,0)!I promise(-1,1001,1001)!I");
    }

    private static void promiseHours() {
        rows.says("41, section 10: the first hour at which the odds are at least these: exactly these, and one more");
        rows.run("promise(0,500,250)=7 promise(0,500,251)=10 promise(0,500,500)=10 promise(0,500,501)=11 promise(0,500,750)=11 promise(0,500,751)=14");
        rows.says("41, section 10: with odds of 1 in a thousand, and of 999");
        rows.run("promise(0,1,998)=7 promise(0,1,999)=10 promise(0,1,1000)=14 promise(0,999,1)=10 promise(0,999,2)=14");
        rows.says("41, section 10: the greatest hours: 5 steps of 50 from the release 200 on");
        String longest = "addJob(200,0,1,0)=3 addStep(3,3,50) addStep(3,3,50) addStep(3,3,50) addStep(3,3,50) addStep(3,3,50)";
        rows.run(longest, "promise(3,0,1)=450 promise(3,0,1000)=450 promise(3,1000,1)=700 promise(3,1000,1000)=700 promise(3,1,1000)=700 promise(3,999,4)=650 promise(3,999,5)=700");
        rows.run(longest, "promise(3,500,31)=450 promise(3,500,32)=500 promise(3,500,187)=500 promise(3,500,188)=550 promise(3,500,500)=550 promise(3,500,501)=600 promise(3,500,1000)=700");
        rows.says("41, section 10: a job without steps has ended at its release");
        rows.run("addJob(0,0,1,0)=3 addJob(200,0,1,0)=4 promise(3,500,1)=0 promise(3,1000,1000)=0 promise(4,0,1)=200 promise(4,1000,1000)=200");
        rows.says("41, section 10: a job of one step of one hour");
        rows.run("addJob(0,0,1,0)=3 addStep(3,3,1)=0 promise(3,500,500)=1 promise(3,500,501)=2");
        rows.says("41, section 10: without closures, set-ups and tools, and without a plan");
        rows.run("close(0,0,2000)=1 setSetup(0,0,20)=0 setTool(0,50,20)=0 promise(0,0,1000)=7", TOLD.replace("=19", ""), "promise(0,0,1000)=7");
    }

    private static void worked() {
        rows.says("42: hour: 0 to 5000");
        rows.run(PLANNED, "worked(0,0)=0 worked(5000,0)=19 worked(-1,0)!A worked(5001,0)!A worked(LOW,0)!A worked(HIGH,0)!A");
        rows.says("42: what: 0 to 2; IllegalArgumentException if what is out of range");
        rows.run(PLANNED, "worked(9,0)=16 worked(9,2)=4 worked(9,-1)!A worked(9,3)!A worked(9,LOW)!A worked(9,HIGH)!A");
        rows.says("42: IllegalStateException if there is no plan");
        rows.run("worked(0,0)!S worked(5000,2)!S");
        rows.says("42, section 12: IllegalArgumentException is listed ahead of IllegalStateException");
        rows.run("worked(-1,0)!A worked(5001,0)!A worked(0,3)!A worked(0,-1)!A");
        rows.says("42: 1 for jobs that have ended by then: a job that ends in that hour has");
        rows.run(PLANNED, "worked(6,1)=0 worked(7,1)=7 worked(8,1)=12 worked(11,1)=12 worked(12,1)=19");
        rows.says("42: 2 for others: at the end of all there are none, at the begin all are");
        rows.run(PLANNED, "worked(0,2)=0 worked(6,2)=11 worked(7,2)=6 worked(8,2)=3 worked(11,2)=6 worked(12,2)=0 worked(5000,2)=0");
        rows.says("42: the hours worked by an hour: one more hour for each machine that works");
        rows.run(TOLD, "worked(1,0)=1 worked(3,0)=3 worked(4,0)=4 worked(9,0)=9 worked(18,0)=18 worked(19,0)=19 worked(20,0)=19");
        rows.says("42: hours in a closure are not worked");
        rows.run(TOLD, "close(0,0,2000)=1 worked(2000,0)=0 worked(2001,0)=1 worked(2019,0)=19 worked(2018,1)=14");
    }

    private static void measures() {
        rows.says("43: IllegalStateException if there is no plan");
        rows.run("meanEnd()!S", PLANNED, "meanEnd()=27/3 undo()=0 meanEnd()!S");
        rows.says("43: the sum of their ends as a double, divided by their number as a double, jobs without steps too");
        rows.run(TOLD, "meanEnd()=40/3");
        rows.run("addJob(200,0,1,0)=3 addJob(0,0,1,0)=4 plan(0)=200 meanEnd()=227/5");
        rows.says("44: IndexOutOfBoundsException if there is no such machine");
        rows.run(PLANNED, "use(0)=12/12 use(3)=0/12 use(-1)!I use(4)!I use(LOW)!I use(HIGH)!I");
        rows.says("44: IllegalStateException if there is no plan");
        rows.run("use(0)!S use(3)!S");
        rows.says("44, section 12: IndexOutOfBoundsException is listed ahead of IllegalStateException");
        rows.run("use(-1)!I use(4)!I");
        rows.says("44: from none of the hours to all of them, as a float");
        rows.run(TOLD, "use(0)=12/19 use(1)=6/19 use(2)=1/19 use(3)=0/19");
    }

    private static void errors() {
        rows.says("45: returns without a plan 0");
        rows.run("errors()=0", PLANNED, "undo()=0 errors()=0");
        rows.says("45: always 0: an end that is bound(), and one behind the latest closure");
        rows.run(PLANNED, "bound()=12 errors()=0 close(0,0,2000)=1 close(1,0,2000)=1 close(2,0,2000)=1 errors()=0");
        rows.says("45: always 0: a job of the latest release without steps is the end and the bound");
        rows.run("addJob(200,0,1,0)=3 plan(0)=200 bound()=200 errors()=0");
        rows.says("45: always 0 with all machines at work at once, on the steps of all jobs");
        rows.run("addJob(0,0,1,0)=3 addStep(3,3,50)=0 addJob(0,0,1,0)=4 addStep(4,2,50)=0 addStep(4,1,50)=1 addJob(0,0,1,0)=5 addStep(5,1,50)=0 addStep(5,3,9)=1 plan(0) errors()=0 plan(1) errors()=0");
        rows.says("45: always 0 in the fullest workshop");
        rows.run(sixJobsOfFiveSteps(), "setTool(3,50,20)=0 close(3,0,2000)=1 plan(4) errors()=0 plan(7) errors()=0");
    }
}
