/** Promises 1 to 15: for each sentence that names a boundary case a test of its own, with answers worked out by hand. */
public final class ChangesEdgesTest {
    private static final Rows rows = new Rows();
    private static final String SIX_JOBS = "addJob(0,0,1,0)=3 addJob(0,0,1,0)=4 addJob(0,0,1,0)=5";
    private static final String FIVE_STEPS = "addStep(0,3,1)=2 addStep(0,3,1)=3 addStep(0,3,1)=4";
    private static final String FOUR_CLOSURES = "close(0,1,2)=1 close(0,1,2)=2 close(0,5,9)=3 close(0,0,2000)=4";
    /** On machine 0 the jobs 0, 1 and 2 from 0, 9 and 14 on, on machine 1 the jobs 0 and 1 from 3 and 7 on, on machine 2 job 2 from 18 on. */
    private static final String TOLD = "tell(112233)=19";
    /** On machine 0 the jobs 0, 2 and 1 from 0, 3 and 7 on, on machine 1 the jobs 1 and 0 from 0 and 3 on, on machine 2 job 2 from 7 on. */
    private static final String PLANNED = "plan(0)=12";
    private static final String NINE_CHANGES = "setWorker(0,1)=0 setWorker(0,2)=1 setWorker(0,3)=2 setWorker(0,4)=3 setWorker(0,5)=4 setWorker(0,6)=5 "
        + "setWorker(0,7)=6 setWorker(0,8)=7 setWorker(0,9)=8";

    public static void main(String[] args) {
        newObject();
        closeNumbers();
        closeHours();
        setToolNumbers();
        setToolLife();
        setSetup();
        addJobNumbers();
        addJobFull();
        addStep();
        cutRefused();
        cutHalves();
        plan();
        tellNumbers();
        tellGreatest();
        best();
        swap();
        replan();
        rush();
        setWorker();
        undoDepth();
        undoEachChange();
        changesWithoutADifference();
        refusedWhenFull();
        rows.finish();
    }

    private static void newObject() {
        rows.says("1: a workshop with three jobs of the weight 1, the release 0, and the kinds 0, 1 and 2, due 12, 9 and 10");
        rows.run("jobs()=3 jobAt(0,0)=0 jobAt(0,1)=12 jobAt(0,2)=1 jobAt(0,3)=0 jobAt(1,0)=0 jobAt(1,1)=9 jobAt(1,2)=1 jobAt(1,3)=1",
            "jobAt(2,0)=0 jobAt(2,1)=10 jobAt(2,2)=1 jobAt(2,3)=2 jobAt(3,0)!I");
        rows.says("1: the job 0 with 3 hours on machine 0 and 4 on machine 1, the job 1 with 2 on machine 1 and 5 on machine 0, the job 2 with 4 on machine 0 and 1 on machine 2");
        rows.run("jobAt(0,4)=2 jobAt(1,4)=2 jobAt(2,4)=2 stepAt(0,0,0)=0 stepAt(0,0,1)=3 stepAt(0,1,0)=1 stepAt(0,1,1)=4",
            "stepAt(1,0,0)=1 stepAt(1,0,1)=2 stepAt(1,1,0)=0 stepAt(1,1,1)=5 stepAt(2,0,0)=0 stepAt(2,0,1)=4 stepAt(2,1,0)=2 stepAt(2,1,1)=1");
        rows.says("1: Workers can work at nothing");
        rows.run("match(15)=0 workerOf(15,0)=-1 workerOf(15,1)=-1 workerOf(15,2)=-1 workerOf(15,3)=-1");
        rows.run("setWorker(0,15)=0 setWorker(1,15)=0 setWorker(2,15)=0 setWorker(3,15)=0 setWorker(4,15)=0 setWorker(5,15)=0");
        rows.says("1: nothing can be undone");
        rows.run("undo()=-1 undo()=-1 jobs()=3 undo()=-1");
        rows.says("1, section 2: there is a plan, or none; at first there is none");
        rows.run("begin(0,0)!S endOf(0)!S value(0)!S doneIn(0,0)!S wayLength()!S blocks()!S longestBlock()!S slack(0,0)!S delay(0,1)!S worked(0,0)!S",
            "meanEnd()!S use(0)!S replan(0,0)!S rush(0)!S orderAt(0,0)!I wayAt(0)!I swap(0,0)!I errors()=0");
        rows.says("1, section 1: both life and change hours are 0 at first, and there is no closure");
        rows.run("setTool(0,50,1)=0 setTool(1,50,1)=0 setTool(2,50,1)=0 setTool(3,50,1)=0 close(0,0,1)=1 close(1,0,1)=1 close(2,0,1)=1 close(3,0,1)=1");
        rows.says("1, section 1: set-up hours from each kind to each kind, all 0 at first");
        rows.run("setSetup(0,0,1)=0 setSetup(0,1,2)=0 setSetup(0,2,3)=0 setSetup(0,3,4)=0 setSetup(1,0,5)=0 setSetup(1,1,6)=0 setSetup(1,2,7)=0 setSetup(1,3,8)=0",
            "setSetup(2,0,9)=0 setSetup(2,1,10)=0 setSetup(2,2,11)=0 setSetup(2,3,12)=0 setSetup(3,0,13)=0 setSetup(3,1,14)=0 setSetup(3,2,15)=0 setSetup(3,3,16)=0",
            "setSetup(0,0,0)=1 setSetup(0,1,0)=2 setSetup(0,2,0)=3 setSetup(0,3,0)=4 setSetup(1,0,0)=5 setSetup(1,1,0)=6 setSetup(1,2,0)=7 setSetup(1,3,0)=8",
            "setSetup(2,0,0)=9 setSetup(2,1,0)=10 setSetup(2,2,0)=11 setSetup(2,3,0)=12 setSetup(3,0,0)=13 setSetup(3,1,0)=14 setSetup(3,2,0)=15 setSetup(3,3,0)=16");
    }

    private static void closeNumbers() {
        rows.says("2: IndexOutOfBoundsException if there is no such machine");
        rows.run("close(0,0,1)=1 close(3,0,1)=1 close(-1,0,1)!I close(4,0,1)!I close(LOW,0,1)!I close(HIGH,0,1)!I");
        rows.says("2: from: 0 to 2000");
        rows.run("close(0,0,2000)=1 close(0,1999,2000)=2 close(0,-1,1)!A close(0,LOW,1)!A close(0,2001,2002)!A close(0,HIGH,LOW)!A close(0,HIGH,HIGH)!A");
        rows.says("2: to: from + 1 to 2000");
        rows.run("close(0,7,8)=1 close(0,7,2000)=2 close(0,7,7)!A close(0,7,6)!A close(0,7,2001)!A close(0,7,LOW)!A close(0,7,HIGH)!A");
        rows.run("close(0,0,1)=1 close(0,0,0)!A close(0,0,-1)!A close(0,0,2000)=2 close(0,0,2001)!A");
        rows.says("2: from 2000 there is no to");
        rows.run("close(0,2000,2000)!A close(0,2000,2001)!A close(0,2000,1999)!A");
        rows.says("2: returns how many closures it has then; section 1: a machine has at most 4 closures");
        rows.run("close(0,1,2)=1 close(1,1,2)=1 close(0,1,2)=2 close(0,3,4)=3 close(0,0,9)=4 close(1,5,6)=2");
        rows.says("2: IllegalStateException if it has 4");
        rows.run(FOUR_CLOSURES, "close(0,1,2)!S close(0,0,2000)!S close(1,1,2)=1 close(2,1,2)=1 close(3,1,2)=1 close(0,1999,2000)!S");
        rows.run("close(3,0,1)=1 close(3,0,1)=2 close(3,0,1)=3 close(3,0,1)=4 close(3,0,1)!S undo()=3 close(3,0,1)=4 close(3,0,1)!S");
        rows.says("2, section 12: of several exceptions IndexOutOfBoundsException is listed first");
        rows.run("close(-1,-1,-1)!I close(4,2001,0)!I", FOUR_CLOSURES, "close(4,9,9)!I close(-1,0,1)!I");
        rows.says("2, section 12: IllegalArgumentException is listed ahead of IllegalStateException");
        rows.run(FOUR_CLOSURES, "close(0,-1,1)!A close(0,3,3)!A close(0,3,2001)!A close(0,2000,2000)!A");
    }

    private static void closeHours() {
        rows.says("2, section 1: a closure from the hour 0 on");
        rows.run(TOLD, "close(0,0,1)=1 begin(0,0)=1 begin(0,1)=4 begin(1,0)=8 begin(1,1)=10 begin(2,0)=15 begin(2,1)=19 value(0)=20");
        rows.says("2, section 1: from an hour to an hour, that one left out: a step can begin in the last one");
        rows.run(TOLD, "close(2,0,18)=1 begin(2,1)=18 value(0)=19");
        rows.run(TOLD, "close(2,0,19)=1 begin(2,1)=19 value(0)=20");
        rows.says("2, section 2: none of a step's hours is in a closure: it may end when one begins");
        rows.run(TOLD, "close(2,19,2000)=1 begin(2,1)=18");
        rows.run(TOLD, "close(2,18,19)=1 begin(2,1)=19");
        rows.run(TOLD, "close(0,3,9)=1 begin(0,0)=0 begin(1,1)=9 close(0,2,3)=2 begin(0,0)=9");
        rows.says("2, section 2: a closure of one hour amid a step");
        rows.run(TOLD, "close(0,1,2)=1 begin(0,0)=2");
        rows.says("2, section 2: between two closures a step fits if there are as many hours as it has");
        rows.run(TOLD, "close(0,0,2)=1 close(0,5,50)=2 begin(0,0)=2 endOf(0)=9 begin(1,1)=50");
        rows.run(TOLD, "close(0,0,2)=1 close(0,4,50)=2 begin(0,0)=50");
        rows.says("2, section 2: closures that touch, overlap, or are told backwards");
        rows.run(TOLD, "close(0,2,4)=1 close(0,0,2)=2 begin(0,0)=4");
        rows.run(TOLD, "close(0,8,11)=1 close(0,6,9)=2 close(0,3,7)=3 close(0,0,4)=4 begin(0,0)=11");
        rows.says("2: the latest closure, to 2000");
        rows.run(TOLD, "close(0,0,2000)=1 begin(0,0)=2000 value(0)=2019 errors()=0");
        rows.run(TOLD, "close(0,1999,2000)=1 value(0)=19");
        rows.says("2, section 2: a closure of another machine does not count");
        rows.run(TOLD, "close(3,0,2000)=1 value(0)=19");
        rows.run(TOLD, "close(0,30,31)=1 close(0,30,31)=2 close(0,30,31)=3 close(0,30,31)=4 close(1,0,50)=1 begin(0,0)=0 begin(0,1)=50");
        rows.run("addJob(0,0,1,0)=3 addStep(3,3,5)=0 close(3,0,1) close(3,5,9) close(3,13,14) close(3,18,20)=4 plan(0)=25 begin(3,0)=20");
        rows.run("addJob(0,0,1,0)=3 addStep(3,3,4)=0 close(3,0,1) close(3,5,9) close(3,13,14) close(3,18,20)=4 plan(0)=12 begin(3,0)=1");
        rows.says("2, section 2: when closures are changed the plan keeps its orders");
        rows.run(TOLD, "close(0,0,1000)=1 orderAt(0,0)=0 orderAt(0,1)=11 orderAt(0,2)=20 orderAt(1,0)=1 orderAt(1,1)=10 begin(1,0)=1007");
    }

    private static void setToolNumbers() {
        rows.says("3: IndexOutOfBoundsException if there is no such machine");
        rows.run("setTool(0,0,0)=0 setTool(3,0,0)=0 setTool(-1,0,0)!I setTool(4,0,0)!I setTool(LOW,0,0)!I setTool(HIGH,0,0)!I");
        rows.says("3: life: 0, or 50 to 300");
        rows.run("setTool(0,50,0)=0 setTool(0,300,0)=50 setTool(0,0,0)=300 setTool(0,51,0)=0 setTool(0,299,0)=51");
        rows.run("setTool(0,-1,0)!A setTool(0,1,0)!A setTool(0,49,0)!A setTool(0,301,0)!A setTool(0,LOW,0)!A setTool(0,HIGH,0)!A setTool(0,-50,0)!A");
        rows.says("3: change: 0 to 20");
        rows.run("setTool(0,60,0)=0 setTool(0,70,20)=60 setTool(0,80,-1)!A setTool(0,80,21)!A setTool(0,80,LOW)!A setTool(0,80,HIGH)!A setTool(0,0,0)=70");
        rows.run("setTool(0,0,-1)!A setTool(0,0,21)!A setTool(0,0,20)=0");
        rows.says("3: returns the life before, of this machine");
        rows.run("setTool(0,50,1)=0 setTool(3,300,2)=0 setTool(0,60,3)=50 setTool(3,0,4)=300 setTool(3,70,0)=0 setTool(1,0,0)=0 setTool(2,0,0)=0 setTool(0,0,0)=60");
        rows.says("3, section 12: of several exceptions IndexOutOfBoundsException is listed first");
        rows.run("setTool(-1,49,0)!I setTool(4,0,21)!I setTool(4,301,-1)!I");
    }

    /** On machine 3 five steps of 50 hours, one more of 50, and one of 1. */
    private static void setToolLife() {
        String steps = "addJob(0,1000,1,0)=3 addJob(0,1000,1,0)=4 addStep(3,3,50)=0 addStep(3,3,50)=1 addStep(3,3,50)=2 addStep(3,3,50)=3 addStep(3,3,50)=4 "
            + "addStep(4,3,50)=0 addStep(4,3,1)=1 tell(1122334444455)=301";
        rows.says("3, section 2: the tool is changed if the hours are greater than the life: 300 are not greater than 300, 301 are");
        rows.run(steps, "setTool(3,300,20)=0 begin(3,4)=200 begin(4,0)=250 begin(4,1)=320 value(0)=321");
        rows.run(steps, "setTool(3,299,20)=0 begin(3,4)=200 begin(4,0)=270 begin(4,1)=320 value(0)=321");
        rows.says("3, section 2: the hours of the steps since the latest change, and its own");
        rows.run(steps, "setTool(3,50,20)=0 begin(3,1)=70 begin(3,4)=280 begin(4,0)=350 begin(4,1)=420");
        rows.run(steps, "setTool(3,51,20)=0 begin(3,1)=70 begin(3,4)=280 begin(4,0)=350 begin(4,1)=400");
        rows.run(steps, "setTool(3,100,20)=0 begin(3,1)=50 begin(3,2)=120 begin(3,3)=170 begin(3,4)=240 begin(4,0)=290 begin(4,1)=360");
        rows.says("3, section 2: the tool is changed ahead of a step that has one ahead of it on the machine, not ahead of the first one");
        rows.run(steps, "setTool(3,50,20)=0 begin(3,0)=0");
        rows.says("3, section 1: with a life of 0 the tool does not wear");
        rows.run(steps, "setTool(3,0,20)=0 value(0)=301 begin(4,1)=300");
        rows.says("3, section 1: change hours of 0 take no time");
        rows.run(steps, "setTool(3,50,0)=0 value(0)=301 begin(4,1)=300");
        rows.says("3, section 2: when tools are changed the plan keeps its orders");
        rows.run(steps, "setTool(3,50,20)=0 orderAt(3,0)=30 orderAt(3,5)=40 orderAt(3,6)=41 orderAt(3,7)!I setTool(3,0,0)=50 value(0)=301");
        rows.says("3, section 1: each machine has a tool of its own");
        rows.run(steps, "setTool(0,50,20)=0 setTool(1,50,20)=0 setTool(2,50,20)=0 value(0)=301");
    }

    private static void setSetup() {
        rows.says("4: from: a kind; IndexOutOfBoundsException if there is no such kind");
        rows.run("setSetup(0,1,1)=0 setSetup(3,1,1)=0 setSetup(-1,1,1)!I setSetup(4,1,1)!I setSetup(LOW,1,1)!I setSetup(HIGH,1,1)!I");
        rows.says("4: to: a kind; IndexOutOfBoundsException if there is no such kind");
        rows.run("setSetup(1,0,1)=0 setSetup(1,3,1)=0 setSetup(1,-1,1)!I setSetup(1,4,1)!I setSetup(1,LOW,1)!I setSetup(1,HIGH,1)!I");
        rows.says("4: hours: 0 to 20");
        rows.run("setSetup(0,1,20)=0 setSetup(0,1,0)=20 setSetup(0,1,-1)!A setSetup(0,1,21)!A setSetup(0,1,LOW)!A setSetup(0,1,HIGH)!A setSetup(0,1,0)=0");
        rows.says("4, section 12: of several exceptions IndexOutOfBoundsException is listed first");
        rows.run("setSetup(-1,0,-1)!I setSetup(0,4,21)!I setSetup(4,-1,HIGH)!I");
        rows.says("4: 20 set-up hours, the greatest number, in a plan");
        rows.run("setSetup(0,1,20)=0 tell(112233)=39 begin(0,1)=3 begin(1,0)=27 begin(1,1)=29 begin(2,0)=34");
        rows.says("4, section 2: set-up hours from the kind ahead to its own, not the other way");
        rows.run("setSetup(1,0,20)=0 setSetup(2,0,20)=0 setSetup(2,1,20)=0 tell(112233)=19");
        rows.says("4, section 2: the first step on a machine has no set-up");
        rows.run("setSetup(0,0,20)=0 setSetup(1,1,20)=0 setSetup(2,2,20)=0 setSetup(3,3,20)=0 tell(112233)=19");
        rows.says("4, section 2: when a set-up is changed there is no plan, also if its hours stay (section 12: a change even if nothing is different)");
        rows.run(PLANNED, "setSetup(3,3,1)=0 value(0)!S errors()=0 undo()=1 value(0)=12");
        rows.run(PLANNED, "setSetup(0,0,0)=0 value(0)!S");
        rows.run(PLANNED, "setSetup(0,0,21)!A value(0)=12");
    }

    private static void addJobNumbers() {
        rows.says("5: release: 0 to 200");
        rows.run("addJob(0,5,5,1)=3 addJob(200,5,5,1)=4 jobAt(3,0)=0 jobAt(4,0)=200 addJob(-1,5,5,1)!A addJob(201,5,5,1)!A addJob(LOW,5,5,1)!A addJob(HIGH,5,5,1)!A");
        rows.says("5: due: 0 to 1000");
        rows.run("addJob(5,0,5,1)=3 addJob(5,1000,5,1)=4 jobAt(3,1)=0 jobAt(4,1)=1000 addJob(5,-1,5,1)!A addJob(5,1001,5,1)!A addJob(5,LOW,5,1)!A addJob(5,HIGH,5,1)!A");
        rows.says("5: weight: 1 to 9");
        rows.run("addJob(5,5,1,1)=3 addJob(5,5,9,1)=4 jobAt(3,2)=1 jobAt(4,2)=9 addJob(5,5,0,1)!A addJob(5,5,10,1)!A addJob(5,5,-1,1)!A addJob(5,5,LOW,1)!A addJob(5,5,HIGH,1)!A");
        rows.says("5: IndexOutOfBoundsException if there is no such kind (0 to 3)");
        rows.run("addJob(5,5,5,0)=3 addJob(5,5,5,3)=4 jobAt(3,3)=0 jobAt(4,3)=3 addJob(5,5,5,-1)!I addJob(5,5,5,4)!I addJob(5,5,5,LOW)!I addJob(5,5,5,HIGH)!I");
        rows.says("5, section 12: of several exceptions IndexOutOfBoundsException is listed first");
        rows.run("addJob(-1,5,5,4)!I addJob(5,1001,5,-1)!I addJob(5,5,0,4)!I", SIX_JOBS, "addJob(5,5,5,4)!I addJob(-1,-1,0,-1)!I");
        rows.says("5, section 12: IllegalArgumentException is listed ahead of IllegalStateException");
        rows.run(SIX_JOBS, "addJob(-1,5,5,1)!A addJob(5,1001,5,1)!A addJob(5,5,10,1)!A");
    }

    private static void addJobFull() {
        rows.says("5: returns its number; section 1: at most 6 jobs");
        rows.run("addJob(1,2,3,0)=3 jobs()=4 addJob(4,5,6,1)=4 jobs()=5 addJob(7,8,9,2)=5 jobs()=6 jobAt(5,0)=7 jobAt(5,1)=8 jobAt(5,2)=9 jobAt(5,3)=2");
        rows.says("5: IllegalStateException if there are 6 jobs");
        rows.run(SIX_JOBS, "addJob(0,0,1,0)!S addJob(200,1000,9,3)!S jobs()=6");
        rows.run("addJob(0,0,1,0)=3 cut(0)=4 cut(1)=5 addJob(0,0,1,0)!S");
        rows.says("5: there is room again when a job was undone");
        rows.run(SIX_JOBS, "addJob(0,0,1,0)!S undo()=2 addJob(9,9,9,3)=5 jobAt(5,0)=9 addJob(0,0,1,0)!S");
        rows.says("5: adds a job without steps");
        rows.run("addJob(0,0,1,0)=3 jobAt(3,4)=0 jobAt(3,5)=0 stepAt(3,0,0)!I");
        rows.run("addJob(0,0,1,0)=3 addStep(3,3,9)=0 undo()=1 undo()=0 addJob(0,0,1,0)=3 jobAt(3,4)=0 jobAt(3,5)=0");
        rows.says("5, section 2: when a job is changed there is no plan");
        rows.run(PLANNED, "addJob(0,0,1,0)=3 value(0)!S begin(0,0)!S orderAt(0,0)!I undo()=1 value(0)=12");
    }

    private static void addStep() {
        rows.says("6: IndexOutOfBoundsException if there is no such job");
        rows.run("addStep(0,3,1)=2 addStep(2,3,1)=2 addStep(-1,3,1)!I addStep(3,3,1)!I addStep(LOW,3,1)!I addStep(HIGH,3,1)!I");
        rows.run(SIX_JOBS, "addStep(5,3,1)=0 addStep(6,3,1)!I");
        rows.says("6: IndexOutOfBoundsException if there is no such machine");
        rows.run("addStep(0,0,1)=2 addStep(0,3,1)=3 addStep(0,-1,1)!I addStep(0,4,1)!I addStep(0,LOW,1)!I addStep(0,HIGH,1)!I");
        rows.says("6: hours: 1 to 50");
        rows.run("addStep(0,3,1)=2 addStep(0,3,50)=3 stepAt(0,2,1)=1 stepAt(0,3,1)=50 addStep(0,3,0)!A addStep(0,3,51)!A addStep(0,3,-1)!A addStep(0,3,LOW)!A addStep(0,3,HIGH)!A");
        rows.says("6: returns its number; section 1: 0 to 5 steps");
        rows.run("addJob(0,0,1,0)=3 addStep(3,0,1)=0 addStep(3,1,2)=1 addStep(3,2,3)=2 addStep(3,3,4)=3 addStep(3,0,5)=4 jobAt(3,4)=5 stepAt(3,4,0)=0 stepAt(3,4,1)=5");
        rows.says("6: IllegalStateException if it has 5 steps");
        rows.run(FIVE_STEPS, "addStep(0,3,1)!S addStep(0,0,50)!S jobAt(0,4)=5 addStep(1,3,1)=2");
        rows.run(FIVE_STEPS, "addStep(0,3,1)!S undo()=2 addStep(0,2,7)=4 stepAt(0,4,0)=2 addStep(0,3,1)!S");
        rows.says("6, section 12: of several exceptions IndexOutOfBoundsException is listed first");
        rows.run("addStep(-1,-1,0)!I addStep(3,0,51)!I addStep(0,4,0)!I", FIVE_STEPS, "addStep(0,4,1)!I addStep(0,-1,51)!I");
        rows.says("6, section 12: IllegalArgumentException is listed ahead of IllegalStateException");
        rows.run(FIVE_STEPS, "addStep(0,3,0)!A addStep(0,3,51)!A");
        rows.says("6, section 2: when a step is changed there is no plan");
        rows.run(PLANNED, "addStep(0,3,1)=2 value(0)!S errors()=0 undo()=1 value(0)=12");
    }

    private static void cutRefused() {
        rows.says("7: IndexOutOfBoundsException if there is no such job");
        rows.run("cut(-1)!I cut(3)!I cut(LOW)!I cut(HIGH)!I cut(0)=3 cut(4)!I");
        rows.says("7: IllegalStateException if there are 6 jobs");
        rows.run(SIX_JOBS, "cut(0)!S cut(1)!S");
        rows.run("addJob(0,0,1,0)=3 addJob(0,0,1,0)=4 cut(0)=5 cut(1)!S cut(0)!S");
        rows.says("7: IllegalStateException if it has no steps");
        rows.run("addJob(0,0,1,0)=3 cut(3)!S");
        rows.says("7: IllegalStateException if it has one of a single hour: the last, the first, one amid, the only one");
        rows.run("cut(2)!S");
        rows.run("addJob(0,0,1,0)=3 addStep(3,3,1)=0 cut(3)!S addStep(3,3,2)=1 cut(3)!S");
        rows.run("addJob(0,0,1,0)=3 addStep(3,3,2)=0 addStep(3,3,1)=1 addStep(3,3,2)=2 cut(3)!S");
        rows.says("7, section 12: of several exceptions IndexOutOfBoundsException is listed first");
        rows.run(SIX_JOBS, "cut(6)!I cut(-1)!I");
    }

    private static void cutHalves() {
        rows.says("7, section 8: each of the steps has at least 2 hours");
        rows.run("addJob(0,0,1,0)=3 addStep(3,3,2)=0 cut(3)=4 stepAt(3,0,1)=1 stepAt(4,0,1)=1 cut(3)!S cut(4)!S");
        rows.says("7, section 8: half of the hours of each step, rounded down; the rest stays with the job");
        rows.run("addJob(0,0,1,0)=3 addStep(3,0,3)=0 addStep(3,1,49)=1 addStep(3,2,50)=2 cut(3)=4",
            "stepAt(4,0,1)=1 stepAt(3,0,1)=2 stepAt(4,1,1)=24 stepAt(3,1,1)=25 stepAt(4,2,1)=25 stepAt(3,2,1)=25 jobAt(4,5)=50 jobAt(3,5)=52");
        rows.says("7, section 8: the same release, due hour, weight, kind and machines, the greatest ones, with 5 steps");
        rows.run("addJob(200,1000,9,3)=3 addStep(3,3,50)=0 addStep(3,2,50)=1 addStep(3,1,50)=2 addStep(3,0,50)=3 addStep(3,3,50)=4 cut(3)=4 jobAt(4,0)=200",
            "jobAt(4,1)=1000 jobAt(4,2)=9 jobAt(4,3)=3 jobAt(4,4)=5 jobAt(4,5)=125 stepAt(4,0,0)=3 stepAt(4,1,0)=2 stepAt(4,2,0)=1 stepAt(4,3,0)=0 stepAt(4,4,0)=3 jobAt(3,4)=5");
        rows.says("7: returns the number of the new job; the last one is 5");
        rows.run("cut(0)=3 cut(1)=4 cut(0)=5 jobAt(4,5)=3 jobAt(1,5)=4 jobAt(5,5)=2 jobAt(0,5)=2 cut(1)!S");
        rows.run("addJob(0,0,1,0)=3 addStep(3,3,8)=0 cut(3)=4 cut(3)=5 jobAt(3,5)=2 jobAt(4,5)=4 jobAt(5,5)=2 cut(3)!S");
        rows.says("7, section 2: when a lot is cut there is no plan");
        rows.run(PLANNED, "cut(0)=3 value(0)!S orderAt(0,0)!I undo()=1 value(0)=12 jobs()=3 jobAt(0,5)=7");
        rows.run(PLANNED, "cut(2)!S value(0)=12");
    }

    private static void plan() {
        rows.says("8: rule: SHORTEST to RELEASE; IllegalArgumentException if there is no such rule");
        rows.run("plan(0) plan(7) plan(-1)!A plan(8)!A plan(LOW)!A plan(HIGH)!A");
        rows.says("8: returns its end, for each of the 8 rules");
        rows.run("plan(0)=12 value(0)=12 plan(1)=16 value(0)=16 plan(2)=16 value(0)=16 plan(3)=13 value(0)=13 plan(4)=13 value(0)=13 plan(5)=13 value(0)=13 plan(6)=12 value(0)=12 plan(7)=13 value(0)=13");
        rows.says("8: a refused rule leaves the plan, or that there is none");
        rows.run("plan(8)!A value(0)!S plan(0)=12 plan(8)!A value(0)=12 undo()=0 undo()=-1");
        rows.says("8, section 3: of several still, that of the lowest job");
        rows.run("addJob(0,0,1,0)=3 addJob(0,0,1,0)=4 addStep(3,3,5)=0 addStep(4,3,5)=0 plan(0)=12 orderAt(3,0)=30 plan(1) orderAt(3,0)=30 plan(2) orderAt(3,0)=30",
            "plan(3) orderAt(3,0)=30 plan(4) orderAt(3,0)=30 plan(5) orderAt(3,0)=30 plan(6) orderAt(3,0)=30 plan(7) orderAt(3,0)=30");
        rows.says("8: a plan of the greatest workshop: 30 steps, behind closures to 2000, with set-ups and tools of 20");
        rows.run(greatestWorkshop(), "errors()=0 worked(5000,0)=1219 orderAt(3,23) orderAt(3,24)!I");
    }

    /** Each job with 5 steps, 24 steps of 50 hours on machine 3, closed to 2000 and with 40 hours between two steps. */
    private static String greatestWorkshop() {
        StringBuilder calls = new StringBuilder(SIX_JOBS);
        for (int job = 0; job < 6; job++) {
            for (int step = job < 3 ? 2 : 0; step < 5; step++) calls.append(" addStep(").append(job).append(",3,50)=").append(step);
        }
        for (int pair = 0; pair < 16; pair++) calls.append(" setSetup(").append(pair / 4).append(',').append(pair % 4).append(",20)=0");
        // 2000, then 24 times 50 and 23 times 40 hours.
        return calls.append(" setTool(3,50,20)=0 close(3,0,2000)=1 plan(0)=4120 value(0)=4120 doneIn(3,1999)=-1 doneIn(3,4120)=-1").toString();
    }

    private static void tellNumbers() {
        rows.says("9: IllegalArgumentException if row is below 0");
        rows.run("tell(-1)!A tell(-112233)!A tell(LOW)!A tell(-9223372036854775807)!A");
        rows.says("9: 0 for an empty row, which leaves steps out here");
        rows.run("tell(0)!A", TOLD, "tell(0)!A value(0)=19");
        rows.says("9: IllegalArgumentException if a digit is no job");
        rows.run("tell(112230)!A tell(102233)!A tell(1122330)!A tell(112234)!A tell(112239)!A tell(412233)!A tell(912233)!A tell(1122334)!A");
        rows.run(SIX_JOBS, "tell(112237)!A tell(1122337)!A tell(112233)=19");
        rows.says("9: IllegalArgumentException if a job is not in it as often as it has steps: once less, once more, once for another");
        rows.run("tell(11223)!A tell(12233)!A tell(1)!A tell(1122333)!A tell(1112233)!A tell(111223)!A tell(112223)!A tell(112222)!A");
        rows.says("9: a job without steps is not in it");
        rows.run("addJob(20,0,1,0)=3 tell(112233)=20 tell(1122334)!A tell(4112233)!A endOf(3)=20");
        rows.says("9: a row that only agrees in its lowest bits with one that tells a plan");
        rows.run("tell(4295079529)!A tell(8590046825)!A");
        rows.says("9: HIGH is no row");
        rows.run("tell(HIGH)!A", TOLD, "tell(HIGH)!A value(0)=19 undo()=0");
        rows.says("9: its decimal digits, from the highest one on");
        rows.run("tell(332211)=16 orderAt(0,0)=20 orderAt(0,1)=11 orderAt(0,2)=0");
        rows.run("tell(112233)=19 orderAt(0,0)=0 orderAt(0,1)=11 orderAt(0,2)=20");
    }

    private static void tellGreatest() {
        StringBuilder steps = new StringBuilder(SIX_JOBS);
        for (int job = 3; job < 6; job++) {
            for (int step = 0; step < (job == 5 ? 3 : 5); step++) steps.append(" addStep(").append(job).append(",3,1)=").append(step);
        }
        rows.says("9: the longest row has 19 digits");
        rows.run(steps.toString(), "tell(6665555544444332211)=16 orderAt(3,0)=50 orderAt(3,2)=52 orderAt(3,3)=40 orderAt(3,8)=30 orderAt(3,12)=34 orderAt(3,13)!I tell(HIGH)!A");
        rows.run(steps.toString(), "tell(1122334444455555666)=19 orderAt(3,0)=30 orderAt(3,12)=52 tell(665555544444332211)!A tell(7665555544444332211)!A");
        rows.says("9: with 20 steps no row has all of them");
        rows.run(steps.toString(), "addStep(5,3,1)=3 tell(6665555544444332211)!A tell(HIGH)!A plan(0) tell(6666555554444433221)!A");
    }

    private static void best() {
        String eightSteps = "addStep(0,3,1)=2 addStep(1,3,1)=2";
        rows.says("10: aim: END to TARDINESS; IllegalArgumentException if there is no such aim");
        rows.run("best(0)=12 best(1)=27 best(2)=3 best(3)=1 best(4)=3 best(-1)!A best(5)!A best(LOW)!A best(HIGH)!A");
        rows.says("10, section 4: with at most 8 steps in all");
        rows.run(eightSteps, "best(0)=13 best(4)=3");
        rows.run("addJob(0,0,1,0)=3 addJob(0,0,1,0)=4 addStep(3,3,1)=0 addStep(4,3,1)=0 best(0)=12");
        rows.says("10: IllegalStateException if there are more than 8 steps");
        rows.run(eightSteps, "addStep(2,3,1)=2 best(0)!S best(4)!S undo()=2 best(0)=13");
        rows.run(greatestWorkshop(), "best(0)!S best(2)!S");
        rows.says("10, section 12: IllegalArgumentException is listed ahead of IllegalStateException");
        rows.run(eightSteps, "addStep(2,3,1)=2 best(5)!A best(-1)!A");
        rows.says("10, section 4: jobs without steps count with their releases");
        rows.run("addJob(200,100,9,0)=3 best(0)=200 best(1)=227 best(2)=100 best(3)=2 best(4)=903");
        rows.says("10, section 4: of all rows of job numbers that tell such a plan the first one is taken");
        rows.run("best(0)=12 orderAt(0,0)=0 orderAt(0,1)=20 orderAt(0,2)=11 orderAt(1,0)=10 orderAt(1,1)=1");
        rows.run("best(3)=1 orderAt(0,0)=0 orderAt(0,1)=20 orderAt(0,2)=11 orderAt(1,0)=1 orderAt(1,1)=10");
        rows.says("10: returns the value of the aim, not the end");
        rows.run("best(3)=1 value(3)=1 value(0)=14");
    }

    private static void swap() {
        rows.says("11: IndexOutOfBoundsException if there is no such machine");
        rows.run(TOLD, "swap(-1,0)!I swap(4,0)!I swap(LOW,0)!I swap(HIGH,0)!I");
        rows.says("11: IndexOutOfBoundsException if there are no steps at this place and the next one");
        rows.run(TOLD, "swap(0,-1)!I swap(0,2)!I swap(0,3)!I swap(0,LOW)!I swap(0,HIGH)!I swap(1,-1)!I swap(1,1)!I swap(1,2)!I");
        rows.says("11: a machine with one step, and one with none, has no two places");
        rows.run(TOLD, "swap(2,0)!I swap(2,-1)!I swap(3,0)!I swap(3,-1)!I");
        rows.says("11: the first two and the last two places");
        rows.run(TOLD, "swap(0,1)=14 orderAt(0,0)=0 orderAt(0,1)=20 orderAt(0,2)=11");
        rows.run(TOLD, "swap(1,0)=13 orderAt(1,0)=10 orderAt(1,1)=1");
        rows.run("tell(332211)=16 swap(0,0)=18 orderAt(0,0)=11 orderAt(0,1)=20 orderAt(0,2)=0 orderAt(2,0)=21 begin(2,1)=11 endOf(0)=18");
        rows.says("11: also without a plan");
        rows.run("swap(0,0)!I swap(0,1)!I swap(1,0)!I swap(4,0)!I swap(0,HIGH)!I");
        rows.run(TOLD, "addJob(0,0,1,0)=3 swap(0,1)!I undo()=1 swap(0,1)=14");
        rows.run(TOLD, "undo()=0 swap(0,1)!I");
        rows.says("11: IllegalStateException if no row of job numbers tells the orders that there would be");
        rows.run(TOLD, "swap(0,0)!S swap(0,1)=14");
        rows.run("addJob(0,0,1,0)=3 addStep(3,3,1)=0 addStep(3,3,1)=1 addStep(3,2,1)=2 plan(0)=12 swap(3,0)!S");
        rows.says("11: exchanged twice the orders are as they were");
        rows.run(TOLD, "swap(0,1)=14 swap(0,1)=19 orderAt(0,1)=11 orderAt(0,2)=20 undo()=2");
    }

    private static void replan() {
        rows.says("12: rule: SHORTEST to RELEASE; IllegalArgumentException if there is no such rule");
        rows.run(TOLD, "replan(0,0)=12 replan(7,0)=13 replan(-1,0)!A replan(8,0)!A replan(LOW,0)!A replan(HIGH,0)!A");
        rows.says("12: hour: 0 to 2000");
        rows.run(TOLD, "replan(0,2000)=19 replan(0,-1)!A replan(0,2001)!A replan(0,LOW)!A replan(0,HIGH)!A replan(0,0)=12");
        rows.says("12: IllegalStateException if there is no plan");
        rows.run("replan(0,0)!S replan(7,2000)!S plan(0)=12 addJob(0,0,1,0)=3 replan(0,0)!S");
        rows.says("12, section 12: IllegalArgumentException is listed ahead of IllegalStateException");
        rows.run("replan(-1,0)!A replan(8,0)!A replan(0,-1)!A replan(0,2001)!A");
        rows.says("12: steps that begin ahead of an hour keep their places: one that begins at 3 with the hour 4, not with 3");
        rows.run(TOLD, "replan(0,3)=12 orderAt(1,0)=10 orderAt(1,1)=1");
        rows.run(TOLD, "replan(0,4)=14 orderAt(1,0)=1 orderAt(1,1)=10 orderAt(0,1)=20");
        rows.says("12: with the hour 0 none is kept, not even one that begins at 0; with the hour 1 that one is");
        rows.run("tell(332211)=16 replan(0,0)=12 orderAt(0,0)=0");
        rows.run("tell(332211)=16 replan(0,1) orderAt(0,0)=20");
        rows.says("12: also if one begins ahead of the hour then");
        rows.run(TOLD, "replan(0,9)=14 begin(2,0)=3 begin(2,1)=7 begin(1,1)=9");
        rows.says("12: a step that begins at 2000 is not ahead of the greatest hour");
        rows.run(TOLD, "close(0,0,2000)=1 replan(0,2000)=2012 begin(1,0)=0 begin(0,0)=2000");
        rows.run(TOLD, "close(0,0,1999)=1 begin(0,0)=1999 replan(1,2000) orderAt(0,0)=0");
        rows.says("12, section 12: a change even if nothing is different afterwards");
        rows.run(TOLD, "replan(0,2000)=19 undo()=1 undo()=0 undo()=-1");
    }

    private static void rush() {
        rows.says("13: IndexOutOfBoundsException if there is no such job");
        rows.run(TOLD, "rush(0)=19 rush(2)=18 rush(-1)!I rush(3)!I rush(LOW)!I rush(HIGH)!I");
        rows.says("13: IllegalStateException if there is no plan");
        rows.run("rush(0)!S rush(2)!S plan(0)=12 setSetup(0,0,0)=0 rush(0)!S");
        rows.says("13, section 12: IndexOutOfBoundsException is listed ahead of IllegalStateException");
        rows.run("rush(-1)!I rush(3)!I");
        rows.says("13, section 11: its steps come first in the orders of all machines, and the other steps keep their order behind them");
        rows.run(TOLD, "rush(2)=18 orderAt(0,0)=20 orderAt(0,1)=0 orderAt(0,2)=11 orderAt(1,0)=1 orderAt(1,1)=10 orderAt(2,0)=21");
        rows.says("13, section 11: a job that is first already stays so");
        rows.run(TOLD, "rush(0)=19 orderAt(0,0)=0 orderAt(1,0)=1 undo()=1");
        rows.says("13, section 11: a job without steps changes no order");
        rows.run("addJob(0,0,1,0)=3", TOLD, "rush(3)=19 orderAt(0,0)=0 orderAt(0,1)=11 orderAt(0,2)=20 undo()=2");
        rows.says("13, section 11: a job with several steps on one machine keeps them in their order");
        rows.run("addStep(1,0,1)=2 addStep(1,0,1)=3 tell(11223322)=20 rush(1) orderAt(0,0)=11 orderAt(0,1)=12 orderAt(0,2)=13 orderAt(0,3)=0 orderAt(0,4)=20");
    }

    private static void setWorker() {
        rows.says("14: IndexOutOfBoundsException if there is no such worker (6 workers, numbered from 0)");
        rows.run("setWorker(0,1)=0 setWorker(5,1)=0 setWorker(-1,1)!I setWorker(6,1)!I setWorker(LOW,1)!I setWorker(HIGH,1)!I");
        rows.says("14: machines: a set of machines, 0 to 15");
        rows.run("setWorker(3,15)=0 setWorker(3,0)=15 setWorker(3,-1)!A setWorker(3,16)!A setWorker(3,LOW)!A setWorker(3,HIGH)!A setWorker(3,1)=0");
        rows.says("14, section 12: of several exceptions IndexOutOfBoundsException is listed first");
        rows.run("setWorker(-1,-1)!I setWorker(6,16)!I");
        rows.says("14: returns the set before, of this worker");
        rows.run("setWorker(0,15)=0 setWorker(1,8)=0 setWorker(5,1)=0 setWorker(0,3)=15 setWorker(1,0)=8 setWorker(5,2)=1 setWorker(1,1)=0 setWorker(0,0)=3");
        rows.says("14: the plan stays");
        rows.run(PLANNED, "setWorker(0,15)=0 value(0)=12 begin(1,1)=7 undo()=1 value(0)=12");
    }

    private static void undoDepth() {
        rows.says("15: NONE, and nothing is different, if there was none to undo");
        rows.run("undo()=-1 jobs()=3 match(15)=0 value(0)!S");
        rows.run(PLANNED, "undo()=0 undo()=-1 undo()=-1 value(0)!S plan(0)=12 value(0)=12 undo()=0 undo()=-1");
        rows.says("15: returns the number of changes that can still be undone");
        rows.run("setWorker(0,1)=0 setWorker(0,2)=1 setWorker(0,3)=2 undo()=2 setWorker(1,1)=0 undo()=2 undo()=1 undo()=0 undo()=-1");
        rows.says("15, section 12: 8 changes can be undone, all of them");
        rows.run("setWorker(0,1)=0 setWorker(0,2)=1 setWorker(0,3)=2 setWorker(0,4)=3 setWorker(0,5)=4 setWorker(0,6)=5 setWorker(0,7)=6 setWorker(0,8)=7",
            "undo()=7 undo()=6 undo()=5 undo()=4 undo()=3 undo()=2 undo()=1 undo()=0 undo()=-1 setWorker(0,9)=0");
        rows.says("15, section 12: up to 8 of the latest changes: of nine the first one stays");
        rows.run(NINE_CHANGES, "undo()=7 undo()=6 undo()=5 undo()=4 undo()=3 undo()=2 undo()=1 undo()=0 undo()=-1 undo()=-1 setWorker(0,9)=1");
        rows.says("15, section 12: a change behind an undo fills the eight again");
        rows.run(NINE_CHANGES, "undo()=7 setWorker(0,10)=8 undo()=7 setWorker(0,11)=8 setWorker(0,12)=11 undo()=7 undo()=6 setWorker(0,13)=8 undo()=6");
        rows.says("15: used for 512 calls, the last 8 of 503 changes are undone, and not one more");
        StringBuilder calls = new StringBuilder("setWorker(0,0)=0");
        for (int change = 1; change < 503; change++) calls.append(" setWorker(0,").append(change % 16).append(")=").append((change - 1) % 16);
        rows.run(calls.toString(), "undo()=7 undo()=6 undo()=5 undo()=4 undo()=3 undo()=2 undo()=1 undo()=0 undo()=-1");
        rows.says("15, section 12: the latest first");
        rows.run("setWorker(0,1)=0 setWorker(1,2)=0 setWorker(0,4)=1 undo()=2 match(4)=0 match(1)=1 undo()=1 match(2)=0 match(1)=1 undo()=0 match(1)=0");
        rows.says("15, section 12: there is no redo");
        rows.run("setWorker(0,1)=0 undo()=0 undo()=-1 match(1)=0 setWorker(0,2)=0 undo()=0 undo()=-1 match(3)=0");
        rows.says("15, section 12: what is asked, and undo itself, is no change");
        rows.run(PLANNED, "jobs() jobAt(0,0) stepAt(0,0,0) begin(0,0) endOf(0) value(0) bound() orderAt(0,0) doneIn(0,0) wayLength() wayAt(0) blocks() longestBlock() slack(0,0) delay(0,1)",
            "leastSum() leastLateness() fewestLate() isDropped(0) leastEnd() twoAt(0) leastSetup() setupAt(0) match(15) workerOf(15,0) promise(0,1,1) worked(9,0) meanEnd() use(0) errors()",
            "undo()=0 undo()=-1");
    }

    private static void undoEachChange() {
        rows.says("15, section 12: all that the sections tell belongs to the state: each change is undone");
        rows.run(TOLD, "close(0,0,9)=1 value(0)=28 undo()=1 value(0)=19 close(0,0,1)=1");
        rows.run("addStep(1,0,50)=2 addStep(2,0,50)=2 tell(11222333)=119 setTool(0,50,9)=0 value(0)=145 undo()=3 value(0)=119 setTool(0,0,0)=0");
        rows.run("addStep(1,0,50)=2 addStep(2,0,50)=2 setTool(0,50,9)=0 tell(11222333)=145 setTool(0,50,20)=50 value(0)=178 undo()=4 value(0)=145 setTool(0,0,0)=50");
        rows.run("setSetup(0,1,9)=0", "tell(112233)=28 undo()=1 undo()=0 tell(112233)=19 setSetup(0,1,0)=0");
        rows.run("addJob(9,9,9,3)=3 undo()=0 jobs()=3 jobAt(3,0)!I");
        rows.run("addStep(0,3,9)=2 undo()=0 jobAt(0,4)=2 jobAt(0,5)=7 stepAt(0,2,0)!I");
        rows.run("cut(0)=3 undo()=0 jobs()=3 jobAt(0,5)=7 stepAt(0,0,1)=3 stepAt(0,1,1)=4");
        rows.run(TOLD, "plan(0)=12 undo()=1 value(0)=19 orderAt(0,1)=11");
        rows.run(PLANNED, "tell(112233)=19 undo()=1 value(0)=12 orderAt(0,1)=20");
        rows.run(TOLD, "best(0)=12 undo()=1 value(0)=19 orderAt(0,1)=11");
        rows.run(TOLD, "swap(0,1)=14 undo()=1 value(0)=19 orderAt(0,1)=11");
        rows.run(TOLD, "replan(0,0)=12 undo()=1 value(0)=19 orderAt(1,0)=1");
        rows.run(TOLD, "rush(2)=18 undo()=1 value(0)=19 orderAt(0,0)=0");
        rows.run("setWorker(4,5)=0 undo()=0 match(15)=0 setWorker(4,0)=0");
        rows.says("15: a plan that a change dropped comes back, with the closures and tools of then");
        rows.run(TOLD, "close(0,0,1)=1 addJob(0,0,1,0)=3 close(0,0,9)=2 undo()=3 undo()=2 value(0)=20 undo()=1 value(0)=19 undo()=0 value(0)!S");
    }

    private static void changesWithoutADifference() {
        rows.says("15, section 12: changes even if nothing is different afterwards");
        rows.run("setTool(0,0,0)=0 undo()=0 undo()=-1");
        rows.run("setSetup(0,0,0)=0 undo()=0 undo()=-1");
        rows.run("setWorker(0,0)=0 undo()=0 undo()=-1");
        rows.run(PLANNED, "plan(0)=12 undo()=1 undo()=0");
        rows.run(TOLD, "tell(112233)=19 undo()=1 undo()=0");
        rows.run("best(0)=12 best(0)=12 undo()=1 undo()=0");
        rows.run(TOLD, "rush(0)=19 undo()=1 undo()=0");
        rows.run(TOLD, "replan(5,2000)=19 undo()=1 undo()=0");
    }

    /** Each change that can be refused, when eight can be undone: none of the eight goes, and none comes. */
    private static void refusedWhenFull() {
        rows.says("section 12: a call that throws an exception changes nothing, and takes nothing from the eight that can be undone");
        rows.run(NINE_CHANGES, "close(4,0,1)!I close(0,1,1)!A setTool(4,0,0)!I setTool(0,49,0)!A setSetup(4,0,0)!I setSetup(0,0,21)!A addJob(0,0,1,4)!I addJob(0,0,0,0)!A",
            "addStep(3,0,1)!I addStep(0,0,0)!A cut(3)!I cut(2)!S plan(8)!A tell(112223)!A best(5)!A swap(0,0)!I replan(8,0)!A replan(0,0)!S rush(3)!I rush(0)!S",
            "setWorker(6,0)!I setWorker(0,16)!A begin(0,0)!S jobAt(0,6)!A wayAt(0)!I undo()=7");
        rows.run(FOUR_CLOSURES, SIX_JOBS, FIVE_STEPS, "addStep(1,3,1)=2 plan(0) close(0,0,1)!S addJob(0,0,1,0)!S addStep(0,0,1)!S cut(0)!S best(0)!S swap(3,0)!S",
            "tell(-1)!A replan(0,2001)!A rush(6)!I undo()=7");
    }
}
