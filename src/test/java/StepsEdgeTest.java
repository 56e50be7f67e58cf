/** Of promise 9, 11 and 12: RUN with its STEPS and OVERRUNS, the order of rules, tests and acts, and ints that wrap. */
public final class StepsEdgeTest {
    private static final int MIN = Integer.MIN_VALUE;
    private static final int MAX = Integer.MAX_VALUE;

    public static void main(String[] args) {
        testsAlone();
        laterRule();
        actsAtTheLimit();
        signsAndFiguresAreNoSteps();
        everyTermIsAStep();
        numbersAsTheyAreThen();
        goCountsNothing();
        whatIsntAskedIsNoStep();
        anewEachTick();
        stoppedSeesAndStays();
        overrunsOfBothTeams();
        rulesAndTestsInOrder();
        lastGoCounts();
        commandEndsTheRun();
        latestCommand();
        sums();
        wraps();
        comparisons();
        Due.end();
    }

    /** TESTS that hold, in just n STEPS: one each, and one for each TERM. */
    private static String tests(int n) {
        StringBuilder b = new StringBuilder("1").append("+0".repeat(n % 3)).append("=1");
        return b.append(" and 1=1".repeat(n / 3 - 1)).toString();
    }

    /** HOME's 0 with this text, behind one tick. */
    private static Play run(String text) {
        Play p = new Play(text.length() > 40 ? text.substring(0, 8) + ".." + text.substring(text.length() - 30) : text);
        return p.give(0, 0, text).begin(0, 1).tick(1, -1);
    }

    private static Play stops(Play p) {
        return p.robot(0, 3, 1).robot(0, 2, 0).robot(0, 10, 0).score(8, 1).at(0, 1, 4);
    }

    private static Play runsThrough(Play p) {
        return p.robot(0, 3, 0).score(8, 0);
    }

    /** "With the 81st STEP it OVERRUNS" */
    private static void testsAlone() {
        for (int n = 3; n <= 80; n++) {
            runsThrough(run("state s{when " + tests(n) + "{}}"));
        }
        for (int n = 81; n <= 90; n++) {
            stops(run("state s{when " + tests(n) + "{}}"));
        }
    }

    /** The 80th and the 81st STEP is a TEST, its first TERM, or its last one; whether it holds doesn't matter. */
    private static void laterRule() {
        for (String test : new String[] {"1=1", "1=2"}) {
            runsThrough(run("state s{when " + tests(77) + "{}when " + test + "{}}"));
            stops(run("state s{when " + tests(78) + "{}when " + test + "{}}"));
            stops(run("state s{when " + tests(79) + "{}when " + test + "{}}"));
            stops(run("state s{when " + tests(80) + "{}when " + test + "{}}"));
        }
        stops(run("state s{when " + tests(80) + "{}when 1=2{}when 1=2{}}"));
    }

    private static Play acts(int steps, String acts) {
        return run("state s{when " + tests(steps) + "{" + acts + "}}state z{}");
    }

    /** "each ACT done is a STEP, ahead of what is worked out for it" */
    private static void actsAtTheLimit() {
        runsThrough(acts(79, "stay;")).robot(0, 10, 0);
        stops(acts(80, "stay;"));
        runsThrough(acts(79, "go z;")).robot(0, 2, 1);
        stops(acts(80, "go z;"));
        runsThrough(acts(78, "set a 7;")).own(0, 7);
        stops(acts(79, "set a 7;")).own(0, 0);
        stops(acts(80, "set a 7;")).own(0, 0);
        runsThrough(acts(77, "move 1 0;")).robot(0, 10, 1).at(0, 2, 4);
        stops(acts(78, "move 1 0;"));
        stops(acts(79, "move 1 0;"));
        stops(acts(80, "move 1 0;"));
        runsThrough(acts(77, "to 9 4;")).robot(0, 10, 1).at(0, 2, 4);
        stops(acts(78, "to 9 4;"));
        stops(acts(79, "to 9 4;"));
        stops(acts(80, "to 9 4;"));
        runsThrough(acts(76, "kick 1 0 1;")).robot(0, 10, 2);
        for (int steps = 77; steps <= 80; steps++) {
            stops(acts(steps, "kick 1 0 1;"));
        }
    }

    /** "each TERM worked out is one (with all its signs -)" */
    private static void signsAndFiguresAreNoSteps() {
        runsThrough(acts(78, "set a ------7;")).own(0, 7);
        runsThrough(acts(78, "set a -----7;")).own(0, -7);
        runsThrough(acts(78, "set a matex 1;")).own(0, 3);
        runsThrough(acts(78, "set a ---foey 1;")).own(0, -6);
        stops(acts(79, "set a ------7;")).own(0, 0);
        stops(acts(79, "set a matex 1;")).own(0, 0);
    }

    private static void everyTermIsAStep() {
        String[] joins = {"+", "-", "*"};
        for (String join : joins) {
            for (int terms = 1; terms <= 12; terms++) {
                String sum = "1" + (join + "1").repeat(terms - 1);
                runsThrough(acts(79 - terms, "set b " + sum + ";")).robot(0, 5, join.equals("+") ? terms : join.equals("-") ? 2 - terms : 1);
                stops(acts(80 - terms, "set b " + sum + ";")).robot(0, 5, 0);
            }
        }
        runsThrough(run("state s{when " + tests(60) + "{}when 1+1+1+1+1+1+1+1+1+1+1+1=12 and 1=1+0+0{}}"));
        stops(run("state s{when " + tests(61) + "{}when 1+1+1+1+1+1+1+1+1+1+1+1=12 and 1=1+0+0+0{}}"));
    }

    /** "its own numbers as they are then" */
    private static void numbersAsTheyAreThen() {
        runsThrough(acts(76, "set a 5;set b 6;")).own(0, 5, 6, 0, 0);
        stops(acts(77, "set a 5;set b 6;")).own(0, 5, 0, 0, 0);
        stops(acts(78, "set a 5;set b 6;")).own(0, 5, 0, 0, 0);
        stops(acts(79, "set a 5;set b 6;")).own(0, 0, 0, 0, 0);
        runsThrough(acts(74, "set d 1;set d d+1;stay;")).own(0, 0, 0, 0, 2);
        stops(acts(75, "set d 1;set d d+1;stay;")).own(0, 0, 0, 0, 2);
        stops(acts(76, "set d 1;set d d+1;stay;")).own(0, 0, 0, 0, 1);
    }

    /** "its state as it was (a go of this run counts nothing)" */
    private static void goCountsNothing() {
        runsThrough(acts(75, "go z;set a 5;set b 6;")).robot(0, 2, 1).own(0, 5, 6);
        stops(acts(76, "go z;set a 5;set b 6;")).own(0, 5, 0);
        Play p = new Play("a go of an earlier run counts");
        p.give(0, 0, "state s{when 1=1{go z;}}state z{when " + tests(79) + "{go s;stay;}}").begin(0, 1).tick(1, -1).robot(0, 2, 1);
        p.tick(1, -1).robot(0, 3, 1).robot(0, 2, 1).tick(3, -1).robot(0, 2, 1);
    }

    /** "asked in order up to the first that doesn't"; what stands behind a command, or in another state, is no STEP. */
    private static void whatIsntAskedIsNoStep() {
        String many = " and 1=1".repeat(27);
        runsThrough(run("state s{when 1=2" + many + "{}when " + tests(77) + "{}}"));
        stops(run("state s{when 1=2" + many + "{}when " + tests(78) + "{}}"));
        runsThrough(run("state s{when 1=1 and 1=2" + many + "{}when " + tests(74) + "{}}"));
        stops(run("state s{when 1=1 and 1=2" + many + "{}when " + tests(75) + "{}}"));
        runsThrough(run("state s{when " + tests(79) + "{stay;set a 1;}when 1=1{}}")).own(0, 0);
        runsThrough(run("state s{when " + tests(80) + "{}}state z{when 1=1{}}"));
        runsThrough(run("state s{when 1=2{set a 1;set b 2;}when " + tests(77) + "{}}"));
    }

    private static void anewEachTick() {
        Play p = run("state s{when " + tests(78) + "{set a tick;}}");
        for (int tick = 1; tick < 9; tick++) {
            p.tick(1, -1).robot(0, 3, 0).own(0, tick);
        }
        p = new Play("all ten by themselves");
        int text = Due.readText(p.x, "state s{when " + tests(78) + "{set a 9;}}");
        for (int k = 0; k < 5; k++) {
            p.due("program", p.x.program(0, k, text), 1).due("program", p.x.program(1, k, text), 1);
        }
        p.begin(0, 1).tick(5, -1).score(8, 0);
        for (int r = 0; r < 10; r++) {
            p.robot(r, 3, 0).own(r, 9);
        }
    }

    /** "STOPPED until the next KICK-OFF (it sees, but doesn't run, and stays)" */
    private static void stoppedSeesAndStays() {
        Play p = new Play("STOPPED");
        p.aside(0, 0).give(0, 0, "state s{when tick=0{move 1 0;}when myx<14{move 1 0;}}");
        p.give(1, 0, "state s{when tick>1{set a a+1;move 0 0-1;}when tick=1{set a 1;}when tick=1 and " + tests(79) + "{}}");
        p.begin(0, 1).tick(1, -1).robot(5, 3, 0).tick(1, -1).robot(5, 3, 1).own(5, 1).robot(5, 10, 0).score(8, 1);
        for (int tick = 2; tick < 7; tick++) {
            p.tick(1, -1).robot(5, 3, 1).own(5, 1).robot(5, 8, 6 + tick).at(5, 11, 0).robot(5, 10, 0).score(8, 1);
        }
        p.begin(0, 1).robot(5, 3, 0).own(5, 0).score(8, 0);
    }

    private static void overrunsOfBothTeams() {
        Play p = new Play("OVERRUNS");
        int text = Due.readText(p.x, "state s{when " + tests(81) + "{}}");
        for (int k = 0; k < 5; k++) {
            p.due("program", p.x.program(0, k, text), 1);
        }
        p.begin(0, 1).tick(1, -1).score(8, 5).tick(5, -1).score(8, 5);
        p.begin(0, 0).tick(1, -1).score(8, 10).tick(2, -1).score(8, 10);
        for (int r = 0; r < 10; r++) {
            p.robot(r, 3, 1);
        }
        p.begin(1, 2).tick(1, -1).score(8, 0);
    }

    private static void rulesAndTestsInOrder() {
        run("state s{when 1=1{set a a*10+1;}when 1=2{set a a*10+2;}when 1=1{set a a*10+3;}}").own(0, 13);
        run("state s{when a=0{set a 1;}when a=1{set b 1;}when b=0{set c 1;}}").own(0, 1, 1, 0, 0);
        run("state s{when 1=1 and 1=1{set a 1;}when 1=2 and 1=1{set b 1;}when 1=1 and 1=2{set c 1;}}").own(0, 1, 0, 0, 0);
        run("state s{when 1=1{set a 1;set a a+1;set b a;set a 7;}}").own(0, 7, 2, 0, 0);
        run("state s{when 1=1{}when 1=1{set a 1;}}").own(0, 1);
        run("state s{}").own(0, 0, 0, 0, 0).robot(0, 10, 0).robot(0, 2, 0).robot(0, 3, 0);
    }

    /** "go: that state from the next tick on (the last go counts)" */
    private static void lastGoCounts() {
        Play p = run("state s{when 1=1{go y;go z;}when 1=1{set a 1;}}state y{when 1=1{set b 1;}}state z{when 1=1{set c 1;go s;go z;go y;}}");
        p.own(0, 1, 0, 0, 0).robot(0, 2, 2).tick(1, -1).own(0, 1, 0, 1, 0).robot(0, 2, 1);
        p.tick(1, -1).own(0, 1, 1, 1, 0).robot(0, 2, 1);
        run("state s{when 1=1{go z;}when 1=1{go s;}}state z{}").robot(0, 2, 0);
        run("state s{when 1=1{go z;}when 1=1{stay;go s;}}state z{}").robot(0, 2, 1);
        run("state s{when 1=1{go z;}when 1=1{stay;}when 1=1{go s;}}state z{}").robot(0, 2, 1);
    }

    /** "move, to, kick, stay are COMMANDS, and end the run (without one the next rules are asked)" */
    private static void commandEndsTheRun() {
        String[] commands = {"move 1 0;", "move 0 0;", "to 2 4;", "to 1 4;", "kick 1 0 1;", "stay;"};
        int[] told = {1, 1, 1, 1, 2, 0};
        int[] columns = {2, 1, 2, 1, 1, 1};
        for (int i = 0; i < commands.length; i++) {
            Play p = run("state s{when 1=1{set a 1;" + commands[i] + "set b 1;move 0 1;}when 1=1{set c 1;move 0 1;}}");
            p.own(0, 1, 0, 0, 0).robot(0, 10, told[i]).at(0, columns[i], 4);
        }
        run("state s{when 1=2{move 1 0;}}").robot(0, 10, 0).at(0, 1, 4);
    }

    /** Promise 11: "its latest COMMAND .. (as its program said; 0 ahead of any)" */
    private static void latestCommand() {
        Play p = new Play("latest COMMAND");
        p.give(0, 0, "state s{when tick=1{move 0 0;}when tick=2{kick 0 0 0;}when tick=3{to 1 4;}when tick=5{move 0 1;}}");
        int[] due = {0, 1, 2, 1, 0, 1, 0};
        p.begin(0, 1).robot(0, 10, 0);
        for (int tick = 0; tick < due.length; tick++) {
            p.tick(1, -1).robot(0, 10, due[tick]);
        }
    }

    /** "SUM: PRODUCT { ( + | - ) PRODUCT }; PRODUCT: TERM { * TERM }: from the left" */
    private static void sums() {
        Reads.sum("2+3*4", 14);
        Reads.sum("2*3+4", 10);
        Reads.sum("2-3*4", -10);
        Reads.sum("10-4-3", 3);
        Reads.sum("10-4+3", 9);
        Reads.sum("10-2*3-4*5+6", -10);
        Reads.sum("-2*3", -6);
        Reads.sum("2*-3", -6);
        Reads.sum("2--3", 5);
        Reads.sum("0*9+1", 1);
        Reads.sum("1+0*9", 1);
        Reads.sum("-bally*-bally", 16);
    }

    /** "All by ints, wrapping." */
    private static void wraps() {
        Reads.sum(Play.sum(MIN), MIN);
        Reads.sum(Play.sum(MAX), MAX);
        Reads.sum("512*512*512*16-1+1", MIN);
        Reads.sum("512*512*512*16-2", MAX - 1);
        Reads.sum("512*512*512*32", 0);
        Reads.sum("512*512*512*15+512*512*512", MIN);
        Reads.sum("999*999*999", 997002999);
        Reads.sum("999*999*999*999", 999 * 999 * 999 * 999);
        Reads.sum("999*999*999+999*999*999+999*999*999", 3 * 997002999);
        run("state s{when 1=1{set a 512*512*512*16;set b -a;set c --a;set d 0-a;}}").own(0, MIN, MIN, MIN, MIN);
        run("state s{when 1=1{set a 512*512*512*16;set b a-1;set c b+1;set d a*-1;}}").own(0, MIN, MAX, MIN, MIN);
        run("state s{when 1=1{set a 512*512*512*16;set b a+a;set c a*3;}}").own(0, MIN, 0, MIN);
    }

    private static void compare(int left, int right) {
        Play p = run("state s{when 1=1{set a " + Play.sum(left) + ";set b " + Play.sum(right) + ";}when a<b{set c 1;}when a=b{set c c+2;}"
            + "when a>b{set c c+4;}}");
        p.robot(0, 6, left < right ? 1 : left == right ? 2 : 4);
    }

    /** "TEST: SUM ( < | = | > ) SUM": by value, however far apart. */
    private static void comparisons() {
        int[] values = {MIN, -999, -1, 0, 1, 999, MAX};
        for (int left : values) {
            for (int right : values) {
                compare(left, right);
            }
        }
    }
}
