/** Of promise 9 and 11: VIEW's SENSORS, RUN, STEPS, OVERRUNS and what robot() tells of them. */
public final class RunTest {
    public static void main(String[] args) {
        sensorsOfHome();
        sensorsOfAway();
        sums();
        wrapping();
        rulesInOrder();
        states();
        steps();
        justEighty();
        greatText();
        lastOfEightStates();
        overrunInAct();
        stoppedUntilKickOff();
        robotFindings();
        Due.end();
    }

    /** A match in which robot 0 of a team has the program, and no other robot has one. */
    private static ToyPitch with(int team, String text) {
        ToyPitch x = new ToyPitch();
        Due.give(x, team, 0, text);
        x.begin(0, 1);
        return x;
    }

    private static void own(ToyPitch x, int r, int a, int b, int c, int d) {
        Due.due("a", x.robot(r, 4), a);
        Due.due("b", x.robot(r, 5), b);
        Due.due("c", x.robot(r, 6), c);
        Due.due("d", x.robot(r, 7), d);
    }

    /** One tick more; then the robot's own numbers are those that the four sums made. */
    private static void sums(int team, String a, String b, String c, String d, int... due) {
        ToyPitch x = with(team, "state s{when 1=1{set a " + a + ";set b " + b + ";set c " + c + ";set d " + d + ";}}");
        x.tick(1);
        own(x, team * 5, due[0], due[1], due[2], due[3]);
    }

    private static void sensorsOfHome() {
        sums(0, "ballx", "bally", "myx", "myy", 7, 4, 1, 4);
        sums(0, "held", "tick", "lead", "near", 0, 0, 0, 6);
        sums(0, "matex 1", "matey 1", "foex 1", "foey 1", 3, 2, 11, 6);
        sums(0, "matex 4", "matey 4", "foex 4", "foey 4", 5, 5, 9, 3);
        sums(0, "matex 0", "matey 0", "foex 0", "foey 0", 1, 4, 13, 4);
        ToyPitch x = with(0, "state s{when 1=1{set a tick;set b held;}}");
        x.tick(7);
        own(x, 0, 6, 0, 0, 0);
    }

    private static void sensorsOfAway() {
        sums(1, "ballx", "bally", "myx", "myy", 7, 4, 1, 4);
        sums(1, "held", "tick", "lead", "near", 0, 0, 0, 6);
        sums(1, "matex 1", "matey 1", "foex 1", "foey 1", 3, 2, 11, 6);
        sums(1, "matex 4", "matey 4", "foex 4", "foey 4", 5, 5, 9, 3);
        ToyPitch x = new ToyPitch();
        Due.give(x, 0, 0, "state s{when 1=1{set a held;set b ballx;set c bally;to ballx bally;}}");
        Due.give(x, 1, 1, "state s{when 1=1{set a held;set b ballx;set c bally;set d near;}}");
        Due.give(x, 0, 1, "state s{when 1=1{set a held;}}");
        x.start(0, 0, 6, 3);
        x.begin(0, 1);
        x.tick(1);
        own(x, 0, 0, 7, 4, 0);
        x.tick(1);
        Due.due("0 holds at (7, 4)", x.ball(2), 0);
        own(x, 0, 2, 7, 4, 0);
        own(x, 1, 1, 0, 0, 0);
        own(x, 6, -1, 7, 4, 4);
    }

    private static void sums() {
        sums(0, "2+3*4", "2*3+4", "10-2-3", "10-2*3-1", 14, 10, 5, 3);
        sums(0, "-2*-3", "--5", "---5", "4------2", 6, 5, -5, 6);
        sums(0, "1-2*3*4+5", "-myx-myy", "2-matex 1*foey 1", "999*999", -18, -5, -16, 998001);
        sums(0, "7", "a*a", "a+b", "d", 7, 49, 56, 0);
    }

    private static void wrapping() {
        sums(0, "512*512*512*16", "a-1", "a*2", "-a", Integer.MIN_VALUE, Integer.MAX_VALUE, 0, Integer.MIN_VALUE);
        sums(0, "999*999*999*999", "999*999*999*3", "b+b+b", "-b*b", 999 * 999 * 999 * 999, 999 * 999 * 999 * 3,
            999 * 999 * 999 * 9, -(999 * 999 * 999 * 3) * (999 * 999 * 999 * 3));
        ToyPitch x = with(0, "state s{when 1=1{set a 512*512*512*16;set b a-1;}when a<b{set c 1;}when b>a{set d 1;}}");
        x.tick(1);
        own(x, 0, Integer.MIN_VALUE, Integer.MAX_VALUE, 1, 1);
    }

    private static void rulesInOrder() {
        ToyPitch x = with(0, "state s{when 1=2{set a 1;stay;}when 1<1{set a 2;stay;}when 1>1{set a 3;}"
            + "when 1=1 and 1=2 and 1=1{set a 4;}when 1<2 and 2>1{set b b+1;set b b*3;}when 1=1{}"
            + "when b=3{move 1 0;set c 9;}when 1=1{set d 9;}}");
        x.tick(1);
        own(x, 0, 0, 3, 0, 0);
        Due.due("it moved", x.robot(0, 0), 2);
        Due.due("command", x.robot(0, 10), 1);
        x.tick(1);
        own(x, 0, 0, 12, 0, 9);
        Due.due("without a command it stays", x.robot(0, 0), 2);
        Due.due("command", x.robot(0, 10), 0);
    }

    private static void states() {
        ToyPitch x = with(0, "state p{when a=0{set a 1;go q;go r;}when 1=1{set b b+1;}}"
            + "state q{when 1=1{set c c+1;go p;stay;go r;}}state r{when 1=1{set d d+1;to 9 4;go p;}when 1=1{set a 7;}}");
        Due.due("first state", x.robot(0, 2), 0);
        x.tick(1);
        own(x, 0, 1, 1, 0, 0);
        Due.due("the last go counts", x.robot(0, 2), 2);
        x.tick(1);
        own(x, 0, 1, 1, 0, 1);
        Due.due("a go behind a command isn't done", x.robot(0, 2), 2);
        x.tick(3);
        own(x, 0, 1, 1, 0, 4);
        Due.due("it went on", x.robot(0, 0), 5);
    }

    /** 13 steps each: a TEST, two TERMS, and acts; six rules of 13 are 78. */
    private static void steps() {
        String rule = "when 1=1{set a a+1+1+1+1+1+1;set b 7;}";
        String six = rule.repeat(6);
        ToyPitch x = with(0, "state s{" + six + "when 1=1{}}state t{}");
        x.tick(1);
        Due.due("81 steps", x.robot(0, 3), 1);
        Due.due("overruns", x.score(8), 1);
        own(x, 0, 36, 7, 0, 0);
        x = with(0, "state s{" + six + "}");
        x.tick(1);
        Due.due("78 steps", x.robot(0, 3), 0);
        String five = rule.repeat(5);
        x = with(0, "state s{" + five + "when 1=1 and 1=1{set a 1+1+1;set b 1;set c 1;stay;}}");
        x.tick(1);
        Due.due("65 + 6 + 4 + 4 + 1 steps are 80", x.robot(0, 3), 0);
        own(x, 0, 3, 1, 1, 0);
        x = with(0, "state s{" + five + "when 1=1 and 1=1{set a -----1+1+1;set b 1;set c 1;set d 5;}}");
        x.tick(1);
        Due.due("its term would be the 81st", x.robot(0, 3), 1);
        own(x, 0, 1, 1, 1, 0);
        x = with(0, "state s{" + five + "when 1=1 and 1=1{set a 1+1+1;set b 1;set c 1;go s;move 1 0;}}");
        x.tick(1);
        Due.due("the 81st is the act", x.robot(0, 3), 1);
        Due.due("it stays", x.robot(0, 0), 1);
        Due.due("command", x.robot(0, 10), 0);
    }

    /** The 80th step is the last term of a set, or of a test. */
    private static void justEighty() {
        String five = "when 1=1{set a a+1+1+1+1+1+1;set b 7;}".repeat(5);
        ToyPitch x = with(0, "state s{" + five + "when 1=1 and 1=1{set d 1+1+1+1+1+1+1+1;}}");
        x.tick(1);
        Due.due("65 + 6 + 9 steps are 80", x.robot(0, 3), 0);
        own(x, 0, 30, 7, 0, 8);
        String test = "when 1=1 and 1=1 and 1=1 and 1=1 and 1=1{";
        x = with(0, "state s{" + five + test + "}}");
        x.tick(1);
        Due.due("65 + 15 steps are 80", x.robot(0, 3), 0);
        x = with(0, "state s{" + five + test + "stay;}}");
        x.tick(1);
        Due.due("the act is the 81st", x.robot(0, 3), 1);
        x = with(0, "state s{" + five + test + "}when 1=2{}}");
        x.tick(1);
        Due.due("the next test is the 81st", x.robot(0, 3), 1);
    }

    /** 800 bytes with more than 350 terms; the last of them are still worked out as they stand. */
    private static void greatText() {
        String twelve = "1*1*1*1*1*1*1*1*1*1*1*1";
        String head = "state s{when 1=2and " + (twelve + "=" + twelve + "and ").repeat(14) + "1=1{}";
        String tail = "when 1=1{set a 7-matex 1;set b a*999-bally;move 1 0;}}";
        String text = head + " ".repeat(800 - head.length() - tail.length()) + tail;
        Due.due("bytes", text.length(), 800);
        ToyPitch x = with(0, text);
        x.tick(1);
        own(x, 0, 4, 3992, 0, 0);
        Due.due("it moved", x.robot(0, 0), 2);
        String acts = "when 1=1{" + "stay;".repeat(8) + "}";
        x = with(0, "state s{" + acts.repeat(12) + "}state t{" + acts.repeat(3) + "}");
        x.tick(1);
        Due.due("the first of 120 acts", x.robot(0, 10), 0);
    }

    private static void lastOfEightStates() {
        StringBuilder b = new StringBuilder();
        for (int i = 0; i < 8; i++) {
            b.append("state x").append((char) ('a' + i)).append("{when 1=1{set a a*10+").append(i).append(";go x");
            b.append((char) ('a' + Math.min(7, i + 1))).append(";}}");
        }
        ToyPitch x = with(0, b.toString());
        x.tick(8);
        own(x, 0, 1234567, 0, 0, 0);
        Due.due("its state", x.robot(0, 2), 7);
        x.tick(1);
        own(x, 0, 12345677, 0, 0, 0);
    }

    private static void overrunInAct() {
        String rule = "when 1=1{set a a+1+1+1+1+1+1;set b 7;}";
        ToyPitch x = with(0, "state s{when tick=2{go t;}" + rule.repeat(5) + "when tick=2{set c 1+1+1+1+1+1+1+1;"
            + "move 1 0;}when 1=1{move 1 0;}}state t{when 1=1{move 1 0;}}");
        Due.due("tick 0", x.tick(1), -1);
        Due.due("it moved", x.robot(0, 0), 2);
        Due.due("3 + 65 + 3 + 3 + 3 steps", x.robot(0, 3), 0);
        x.tick(1);
        Due.due("it moved", x.robot(0, 0), 3);
        x.tick(1);
        Due.due("it overran", x.robot(0, 3), 1);
        Due.due("its state is as it was", x.robot(0, 2), 0);
        Due.due("it stayed", x.robot(0, 0), 3);
        own(x, 0, 90, 7, 0, 0);
        x.tick(5);
        own(x, 0, 90, 7, 0, 0);
        Due.due("it stays", x.robot(0, 0), 3);
        Due.due("counted once", x.score(8), 1);
    }

    private static void stoppedUntilKickOff() {
        String long6 = "when 1=1{set a a+1+1+1+1+1+1;set b 7;}".repeat(7);
        ToyPitch x = new ToyPitch();
        Due.give(x, 1, 1, "state s{when tick=2{go s;}when tick<2{stay;}when tick>3{stay;}" + long6 + "}");
        Due.give(x, 0, 0, "state s{when held=2{kick 1 0 9;}when held=0{to ballx bally;}}");
        x.start(0, 0, 6, 4);
        x.start(1, 0, 0, 0);
        x.begin(0, 1);
        Due.due("three ticks", x.tick(3), -1);
        Due.due("stopped", x.robot(6, 3), 1);
        Due.due("it sees: the ball ahead of tick 2", x.robot(6, 8), 10);
        Due.due("the goal", x.tick(1), 0);
        Due.due("not stopped any more", x.robot(6, 3), 0);
        own(x, 6, 0, 0, 0, 0);
        x.tick(2);
        Due.due("it runs", x.robot(6, 3), 0);
        Due.due("overruns", x.score(8), 1);
    }

    private static void robotFindings() {
        ToyPitch x = new ToyPitch();
        Due.due("no match", x.robot(-1, -1), Due.STATE);
        x.begin(0, 1);
        for (int wrong : new int[] {-1, 10, Integer.MIN_VALUE, Integer.MAX_VALUE}) {
            Due.due("no such robot", x.robot(wrong, 0), Due.BEYOND);
        }
        for (int wrong : new int[] {-1, 11, Integer.MIN_VALUE, Integer.MAX_VALUE}) {
            Due.due("another what", x.robot(9, wrong), Due.BEYOND);
        }
        Due.due("found", x.found(Due.BEYOND), 8);
        Due.due("found", x.found(Due.STATE), 1);
    }
}
