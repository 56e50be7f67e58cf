/** Promises 9 to 13 and 20 to 23: what each call takes and answers at the ends of its range, empty and full. */
public final class CallsEdgeTest {
    private static final int MIN = Integer.MIN_VALUE;
    private static final int MAX = Integer.MAX_VALUE;
    private static final String OWN_GOALS = "state s{when held=2{kick 0-1 0 9;}when 1=1{to 7 4;}}";
    private static final String GOALS = "state s{when held=2{kick 1 0 9;}when 1=1{to 7 4;}}";

    public static void main(String[] args) {
        ticks();
        whatOfTheBall();
        whatOfARobot();
        whatOfTheScore();
        goalsByNumber();
        goalsOfAway();
        twentyGoals();
        goalOfTickThousand();
        tellTwenty();
        checkEachPlace();
        checkFewGoals();
        checkWithoutAMatch();
        counts();
        foundNumbers();
        foundOfEachCall();
        Due.end();
    }

    private static boolean isIn(int value, int least, int most) {
        return value >= least && value <= most;
    }

    /** "STATE: there is no match. BEYOND: n isn't 1 .. 50." */
    private static void ticks() {
        ToyPitch x = new ToyPitch();
        int[] values = {MIN, -50, -1, 0, 1, 2, 49, 50, 51, 52, 100, 306, MAX};
        for (int n : values) {
            Due.due("tick(" + n + ") without a match", x.tick(n), Due.STATE);
        }
        x.begin(0, 1);
        int next = 0;
        for (int n : values) {
            boolean isGood = isIn(n, 1, 50);
            next += isGood ? n : 0;
            int law = next % 10 == 0 ? 1 : -1;
            Due.due("tick(" + n + ")", x.tick(n), isGood ? law : Due.BEYOND);
            Due.due("the next tick", x.score(0), next);
        }
        Due.due("found STATE", x.found(Due.STATE), values.length);
        Due.due("found BEYOND", x.found(Due.BEYOND), values.length - 4);
    }

    private static void whatOfTheBall() {
        ToyPitch x = new ToyPitch();
        for (int what = -2; what <= 7; what++) {
            Due.due("ball(" + what + ") without a match", x.ball(what), Due.STATE);
        }
        x.begin(0, 1);
        int[] due = {7, 4, -1, 0, 0, 0};
        for (int what = -2; what <= 7; what++) {
            Due.due("ball(" + what + ")", x.ball(what), isIn(what, 0, 5) ? due[what] : Due.BEYOND);
        }
        Due.due("ball(MIN)", x.ball(MIN), Due.BEYOND);
        Due.due("ball(MAX)", x.ball(MAX), Due.BEYOND);
    }

    private static void whatOfARobot() {
        ToyPitch x = new ToyPitch();
        int[][] starts = {{1, 4}, {3, 2}, {3, 6}, {5, 3}, {5, 5}};
        int[] due = {0, 0, -1, 0, 0, 0, 0, 0, 7, 4, 0};
        Due.due("robot(0, 0) without a match", x.robot(0, 0), Due.STATE);
        Due.due("robot(-1, 0) without a match", x.robot(-1, 0), Due.STATE);
        Due.due("robot(0, 11) without a match", x.robot(0, 11), Due.STATE);
        x.begin(0, 1);
        for (int r = -1; r <= 10; r++) {
            for (int what = -1; what <= 11; what++) {
                boolean isGood = isIn(r, 0, 9) && isIn(what, 0, 10);
                int want = Due.BEYOND;
                if (isGood) {
                    int start = what < 2 ? starts[r % 5][what] : 0;
                    want = what > 1 ? due[what] : r < 5 ? start : (what == 0 ? 14 : 8) - start;
                }
                Due.due("robot(" + r + ", " + what + ")", x.robot(r, what), want);
            }
        }
        for (int far : new int[] {MIN, MAX}) {
            Due.due("robot(" + far + ", 0)", x.robot(far, 0), Due.BEYOND);
            Due.due("robot(0, " + far + ")", x.robot(0, far), Due.BEYOND);
        }
    }

    private static void whatOfTheScore() {
        ToyPitch x = new ToyPitch();
        for (int what = -2; what <= 10; what++) {
            Due.due("score(" + what + ") without a match", x.score(what), Due.STATE);
        }
        x.begin(0, 1);
        for (int what = -2; what <= 10; what++) {
            Due.due("score(" + what + ")", x.score(what), isIn(what, 0, 8) ? 0 : Due.BEYOND);
        }
        Due.due("score(MIN)", x.score(MIN), Due.BEYOND);
        Due.due("score(MAX)", x.score(MAX), Due.BEYOND);
    }

    /** A match with a goal in tick 3, 7, 11, ..; of HOME, or, by its own robot, of AWAY. */
    private static Play shooting(String text) {
        Play p = new Play(text);
        p.aside(0, 0).give(0, 0, text).start(0, 0, 6, 3);
        return p.begin(0, 1);
    }

    /** "STATE. NONE: there was none such" */
    private static void goalsByNumber() {
        ToyPitch x = new ToyPitch();
        for (int i : new int[] {MIN, -1, 0, 20, MAX}) {
            Due.due("goal(" + i + ") without a match", x.goal(i), Due.STATE);
        }
        Play p = shooting(GOALS);
        for (int goals = 0; goals < 4; goals++) {
            for (int i : new int[] {MIN, -20, -1, goals, goals + 1, 19, 20, 21, MAX}) {
                p.goal(i, Due.NONE);
            }
            for (int i = 0; i < goals; i++) {
                p.goal(i, 3 + 4 * i);
            }
            p.score(1, goals).score(2, 0).score(3, goals).tick(4, 0);
        }
    }

    /** "and 1000 more if it was AWAY's" */
    private static void goalsOfAway() {
        Play p = shooting(OWN_GOALS).tick(3, -1).goal(0, Due.NONE).tick(1, 0).goal(0, 1003).goal(1, Due.NONE).score(2, 1).score(1, 0);
        p = new Play("one each");
        p.aside(0, 0).start(0, 0, 6, 3);
        p.give(0, 0, "state s{when held=2 and lead=0{kick 1 0 9;}when held=2{kick 0-1 0 9;}when 1=1{to 7 4;}}").begin(0, 1);
        p.tick(12, 0).goal(0, 3).goal(1, 1007).goal(2, 11).score(1, 2).score(2, 1).score(3, 3);
    }

    /** "(of the first 20 alone)" */
    private static void twentyGoals() {
        Play p = shooting(OWN_GOALS).tick(50, -1).tick(26, 0).score(2, 19).goal(18, 1075).goal(19, Due.NONE);
        p.tick(4, 0).score(2, 20).goal(19, 1079).goal(20, Due.NONE).tick(4, 0).score(2, 21).goal(19, 1079).goal(20, Due.NONE);
        p.tick(40, 0).score(2, 31).score(3, 31).goal(0, 1003).goal(19, 1079).goal(20, Due.NONE).goal(30, Due.NONE);
    }

    /** A late goal of HOME is told by its tick alone, though one of AWAY may be told by the same number. */
    private static void goalOfTickThousand() {
        Play p = new Play("late goals");
        p.aside(0, 0).give(0, 0, "state s{when tick<999{stay;}when held=2{kick 1 0 9;}when 1=1{to 7 4;}}").begin(0, 1);
        for (int i = 0; i < 19; i++) {
            p.tick(50, 1);
        }
        p.tick(49, -1).score(0, 999).tick(4, 0).goal(0, 1002).score(1, 1).due("told", p.x.tell(1002), 1);
        p.due("check", p.x.check(), 0);
    }

    /** "One more number waits: how many. FULL: 20 wait." */
    private static void tellTwenty() {
        ToyPitch x = new ToyPitch();
        for (int i = 1; i <= 20; i++) {
            Due.due("count(3)", x.count(3), i - 1);
            Due.due("tell", x.tell(i % 2 == 0 ? MIN : MAX), i);
        }
        for (int v : new int[] {MIN, -1, 0, MAX}) {
            Due.due("tell a 21st", x.tell(v), Due.FULL);
            Due.due("count(3)", x.count(3), 20);
        }
        Due.due("found FULL", x.found(Due.FULL), 4);
    }

    private static void says(Play p, int due, int... told) {
        for (int i = 0; i < told.length; i++) {
            p.due("tell", p.x.tell(told[i]), i + 1);
        }
        p.due("check of " + told.length, p.x.check(), due).due("none wait", p.x.count(3), 0);
    }

    private static int[] goals(int many) {
        int[] all = new int[many];
        for (int i = 0; i < many; i++) {
            all[i] = 3 + 4 * i;
        }
        return all;
    }

    /** "0 if they are (the first 20); 1 and i for the first (from 0 on) that isn't, or is missing" - of 20 goals and of 25. */
    private static void checkEachPlace() {
        for (int i = 0; i < 20; i++) {
            Play p = shooting(GOALS).tick(50, -1).tick(i % 2 == 0 ? 30 : 50, 0);
            says(p, 0, goals(20));
            int[] other = goals(20);
            other[i]++;
            says(p, 1 + i, other);
            other[19]--;
            says(p, i == 19 ? 0 : 1 + i, other);
            says(p, 1 + i, goals(i));
            other = goals(20);
            other[i] += 1000;
            says(p, 1 + i, other);
        }
    }

    /** "99 if more were told": but the first that isn't comes ahead of that. */
    private static void checkFewGoals() {
        Play p = shooting(GOALS);
        says(p, 0);
        says(p, 99, 3);
        says(p, 99, 0);
        says(p, 99, goals(20));
        p.tick(4, 0);
        says(p, 1);
        says(p, 0, 3);
        says(p, 1, 2);
        says(p, 1, 4);
        says(p, 1, 1003);
        says(p, 1, MIN);
        says(p, 99, 3, 7);
        says(p, 99, 3, 3);
        says(p, 1, 4, 3);
        says(p, 99, goals(20));
        p.tick(4, 0);
        says(p, 2, 3);
        says(p, 0, 3, 7);
        says(p, 2, 3, 8);
        says(p, 1, 7, 3);
        says(p, 99, 3, 7, 11);
        says(p, 2, 3, 11, 11);
        p = shooting(OWN_GOALS).tick(4, 0);
        says(p, 0, 1003);
        says(p, 1, 3);
        says(p, 99, 1003, 3);
    }

    /** "STATE (they are gone, too)." */
    private static void checkWithoutAMatch() {
        ToyPitch x = new ToyPitch();
        Due.due("check of none", x.check(), Due.STATE);
        for (int many : new int[] {1, 2, 20}) {
            for (int i = 1; i <= many; i++) {
                Due.due("tell", x.tell(3), i);
            }
            Due.due("check", x.check(), Due.STATE);
            Due.due("they are gone", x.count(3), 0);
        }
        Due.due("found STATE", x.found(Due.STATE), 4);
        x.begin(0, 1);
        Due.due("none wait", x.check(), 0);
    }

    private static void countsAre(ToyPitch x, int... due) {
        for (int what = -1; what <= 5; what++) {
            Due.due("count(" + what + ")", x.count(what), isIn(what, 0, 4) ? due[what] : Due.BEYOND);
        }
    }

    /** "0 programs, 1 bytes of the tape, 2 states of program 0 (0 without one), 3 numbers that wait, 4 whether there is a match" */
    private static void counts() {
        ToyPitch x = new ToyPitch();
        countsAre(x, 0, 0, 0, 0, 0);
        x.feed(0x2020, 2);
        countsAre(x, 0, 2, 0, 0, 0);
        x.read();
        countsAre(x, 0, 0, 0, 0, 0);
        Due.readText(x, "state s{}state z{}");
        countsAre(x, 1, 0, 2, 0, 0);
        Due.readText(x, "state s{}state z{}state y{}");
        countsAre(x, 2, 0, 2, 0, 0);
        x.tell(1);
        countsAre(x, 2, 0, 2, 1, 0);
        x.league(15, 1);
        countsAre(x, 2, 0, 2, 1, 0);
        x.begin(0, 1);
        countsAre(x, 2, 0, 2, 1, 1);
        Due.due("count(MIN)", x.count(MIN), Due.BEYOND);
        Due.due("count(MAX)", x.count(MAX), Due.BEYOND);
        Due.due("found BEYOND", x.found(Due.BEYOND), 18);
    }

    /** "BEYOND: another number (counted, too)" */
    private static void foundNumbers() {
        ToyPitch x = new ToyPitch();
        int beyond = 0;
        for (int finding : new int[] {MIN, -2002, -1007, -1006, -1005, -1004, -1003, -1002, -1001, -1000, -999, -1, 0, 1001, MAX}) {
            boolean isFinding = isIn(finding, -1005, -1001);
            int want = finding == Due.BEYOND ? beyond : isFinding ? 0 : Due.BEYOND;
            beyond += isFinding ? 0 : 1;
            Due.due("found(" + finding + ")", x.found(finding), want);
            Due.due("found BEYOND", x.found(Due.BEYOND), beyond);
        }
    }

    /** Every call counts what it answers, and nothing else; an answer that is no finding isn't counted. */
    private static void foundOfEachCall() {
        ToyPitch x = new ToyPitch();
        String[] calls = {"tick 1", "ball 0", "robot 0 0", "score 0", "goal 0", "keep 0", "differ 0", "check", "back 0", "table 0 0",
            "order 0", "feed 0 0", "program 0 0 0", "start 0 0 7 0", "views 0 4 0", "begin 0 4", "keep 2", "back 2", "differ 2",
            "league 1 1", "table 4 0", "order -1", "count 5", "found 0", "read"};
        int[] due = {-1003, -1003, -1003, -1003, -1003, -1003, -1003, -1003, -1004, -1004, -1004, -1001, -1001, -1001, -1001, -1001,
            -1001, -1001, -1001, -1001, -1001, -1001, -1001, -1001, -1005};
        int[] found = new int[5];
        for (int i = 0; i < calls.length; i++) {
            String[] words = calls[i].split(" ");
            long[] a = new long[words.length - 1];
            for (int k = 0; k < a.length; k++) {
                a[k] = Long.parseLong(words[k + 1]);
            }
            Due.due(calls[i], Due.call(x, words[0], a), due[i]);
            found[-1001 - due[i]]++;
            for (int f = 0; f < 5; f++) {
                Due.due("found " + (-1001 - f) + " behind " + calls[i], x.found(-1001 - f), found[f]);
            }
        }
        x.fault();
        x.begin(0, 1);
        x.count(0);
        x.check();
        for (int f = 0; f < 5; f++) {
            Due.due("found " + (-1001 - f), x.found(-1001 - f), found[f]);
        }
    }
}
