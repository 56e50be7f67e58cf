/** Of promise 9 and 12: each of the LAWS in the tick in which it first applies and in the one ahead of it, and their order. */
public final class LawsEdgeTest {
    private static final String FETCH = "state s{when tick=0{to 7 4;}";

    public static void main(String[] args) {
        sleepAtFirst();
        sleepElsewhere();
        sleepOfARollingBall();
        sleepUnderARobot();
        sleepIsBroken();
        sleepBehindAGoal();
        sleepPutsAside();
        for (int team = 0; team < 2; team++) {
            keepsByMove(team);
            keepsCarried(team);
            keepsAgainAndAgain(team);
            keepsNearest(team);
            keepsFarAway(team);
            crowdSize(team);
            crowdColumns(team);
            crowdGreatest(team);
        }
        keepsFromACatchOn();
        keepsFromATackleOn();
        keepsIsBroken();
        crowdOfOneTeamAlone();
        crowdAtATakenStart();
        crowdWithTheBall();
        crowdOntoAFreeBall();
        goalAheadOfCrowd();
        sleepAheadOfCrowd();
        keepsAheadOfCrowd();
        lawOfTheLastTick();
        Due.end();
    }

    /** "1 SLEEP: the ball has been FREE and in one cell at the ends of 10 ticks"; "(counted anew from then on)" */
    private static void sleepAtFirst() {
        Play p = new Play("SLEEP").begin(0, 1).tick(9, -1).score(4, 0).tick(1, 1).score(4, 1).ball(7, 4, -1, 0, 0, 0);
        p.tick(9, -1).score(4, 1).tick(1, 1).score(4, 2).tick(9, -1).tick(1, 1).score(4, 3);
        p.begin(0, 1).tick(4, -1).begin(0, 1).tick(9, -1).tick(1, 1);
    }

    /** The first of the ten ends is the one of the tick in which it came to its cell. */
    private static void sleepElsewhere() {
        Play p = Play.carrier("SLEEP elsewhere", 0, 7, 4, "0 1 1");
        p.tick(1, -1).ball(7, 5, -1, 0).tick(8, -1).ball(7, 5, -1).tick(1, 1).score(4, 1);
        p = Play.carrier("SLEEP behind two ticks of rolling", 0, 1, 4, "1 0 6");
        p.tick(1, -1).tick(1, -1).ball(7, 4, -1, 0).tick(8, -1).tick(1, 1).score(4, 1).ball(7, 4, -1, 0, 0, 0);
    }

    /** In row 7 at the ends of two ticks, turned in between at row 8: it counts where it is at the ends. */
    private static void sleepOfARollingBall() {
        Play p = Play.carrier("SLEEP of one that rolled", 0, 7, 4, "0 1 6");
        p.tick(1, -1).ball(7, 7, -1, 3, 0, 1).tick(1, -1).ball(7, 7, -1, 0, 0, 0);
        p.tick(7, -1).score(4, 0).tick(1, 1).score(4, 1);
        p = Play.carrier("no SLEEP as yet", 0, 7, 4, "0 1 7");
        p.tick(1, -1).ball(7, 7, -1, 4, 0, 1).tick(1, -1).ball(7, 7, -1, 1, 0, -1).tick(1, -1).ball(7, 6, -1, 0, 0, 0);
        p.tick(8, -1).score(4, 0).tick(1, 1).score(4, 1);
    }

    private static void sleepUnderARobot() {
        Play p = Play.carrier("SLEEP under a robot", 0, 7, 8, "0 1 1");
        p.tick(1, -1).ball(7, 8, -1, 0).at(0, 7, 8).tick(8, -1).tick(1, 1).ball(7, 4, -1, 0, 0, 0).at(0, 7, 8);
    }

    /** Whoever HOLDS it at the end of the tenth tick, or has held it, breaks the count. */
    private static void sleepIsBroken() {
        Play p = new Play("held in time");
        p.aside(0, 0).give(0, 0, "state s{when tick=9{move 1 0;}when tick=10{kick 0 1 1;}}").begin(0, 1);
        p.tick(9, -1).tick(1, -1).ball(7, 4, 0).score(4, 0).tick(1, -1).ball(7, 5, -1).tick(8, -1).tick(1, 1).score(4, 1);
        p = new Play("held a tick too late");
        p.aside(0, 0).give(0, 0, "state s{when tick=10{move 1 0;}}").begin(0, 1).tick(9, -1).tick(1, 1).tick(1, -1).ball(7, 4, 0);
        p = new Play("kicked, and back in its cell");
        p.aside(0, 0).give(0, 0, "state s{when tick=5{move 1 0;}when tick=6{move 0 1;}when tick=7{kick 0 0-1 1;}}").begin(0, 1);
        p.tick(8, -1).ball(7, 4, -1, 0).tick(8, -1).score(4, 0).tick(1, 1).score(4, 1);
    }

    private static void sleepBehindAGoal() {
        Play p = new Play("SLEEP behind a goal");
        p.aside(0, 0).give(0, 0, "state s{when tick=0{move 1 0;}when tick=1{kick 1 0 9;}}").begin(0, 1).tick(4, 0);
        p.tick(9, -1).score(4, 0).tick(1, 1).score(4, 1);
    }

    /** "it is PUT at (7, 4), and lies still": aside, if a robot is there, which doesn't get it. */
    private static void sleepPutsAside() {
        Play p = Play.carrier("a robot in the middle", 0, 7, 4, "0 1 1");
        p.tick(9, -1).at(0, 7, 4).tick(1, 1).ball(6, 3, -1, 0, 0, 0);
        p.tick(9, -1).ball(6, 3, -1).tick(1, 1).ball(6, 3, -1, 0, 0, 0).score(4, 2);
        p = new Play("cells beside the middle are taken");
        p.aside(0, 0).start(0, 1, 6, 3).start(0, 2, 6, 4).start(0, 0, 6, 5);
        p.give(0, 0, "state s{when tick=0{to 7 4;}when tick=1{kick 0 1 1;}}").begin(0, 1);
        p.tick(10, -1).tick(1, 1).ball(6, 5, -1, 0, 0, 0);
    }

    /** A match in which robot 0 of a team gets the ball in tick 0, and goes on by these rules. */
    private static Play fetched(String name, int team, String rules) {
        Play p = new Play(name + " of " + team);
        p.aside(team, 0).give(team, 0, FETCH + rules + "}").begin(0, 1);
        return p.tick(1, -1).ball(7, 4, 5 * team, 0, 0, 0);
    }

    /** "2 KEEPS: one robot HOLDS it and got it 12 ticks ago or earlier" */
    private static void keepsByMove(int team) {
        Play p = fetched("KEEPS", team, "");
        p.tick(11, -1).ball(7, 4, 5 * team).score(5, 0).tick(1, 2).score(5, 1);
        p.due("a foe has it", p.x.ball(2) / 5, 1 - team);
    }

    private static void keepsCarried(int team) {
        Play p = fetched("KEEPS of one that goes about", team, "when tick<7{move 1 0;}when 1=1{move 0 1;}");
        p.tick(11, -1).seenBall(team, 13, 8, 5 * team, 0, 0, 0).tick(1, 2).score(5, 1);
    }

    /** The foe that has it by the law got it in that tick. */
    private static void keepsAgainAndAgain(int team) {
        Play p = new Play("KEEPS again of " + team);
        p.aside(team, 0).start(1 - team, 0, 6, 4).give(team, 0, FETCH + "}").begin(0, 1);
        int foe = 5 * (1 - team);
        p.tick(12, -1).tick(1, 2).seenBall(team, 8, 4, foe, 0, 0, 0).tick(11, -1).score(5, 1);
        p.tick(1, 2).score(5, 2).ball(7, 4, 5 * team).tick(11, -1).tick(1, 2).score(5, 3).seenBall(team, 8, 4, foe, 0, 0, 0);
    }

    /** "the nearest foe (by DISTANCE, of several the least number) HOLDS it"; foes' cells as they see them, from (7, 4). */
    private static void nearest(int team, int due, int... cells) {
        Play p = new Play("nearest to a robot of " + team);
        p.aside(team, 0);
        for (int k = 0; k < 5; k++) {
            p.start(1 - team, k, cells[2 * k], cells[2 * k + 1]);
        }
        int holder = 5 * (1 - team) + due;
        p.give(team, 0, FETCH + "}").begin(0, 1).tick(12, -1).tick(1, 2);
        p.ball(p.x.robot(holder, 0), p.x.robot(holder, 1), holder, 0, 0, 0);
    }

    private static void keepsNearest(int team) {
        nearest(team, 0, 6, 1, 6, 0, 6, 8, 5, 0, 5, 8);
        nearest(team, 4, 0, 0, 0, 8, 1, 0, 3, 8, 4, 1);
        nearest(team, 2, 0, 0, 3, 8, 4, 7, 4, 1, 3, 4);
        nearest(team, 3, 3, 4, 3, 5, 3, 3, 4, 7, 3, 6);
        nearest(team, 1, 5, 0, 6, 3, 6, 5, 5, 8, 6, 6);
        nearest(team, 4, 5, 2, 5, 3, 5, 4, 5, 5, 6, 5);
        nearest(team, 0, 3, 4, 3, 3, 3, 5, 3, 2, 3, 6);
    }

    /** The nearest foe may be 14 columns off; all five in one column crowd in each tick, but KEEPS comes first. */
    private static void keepsFarAway(int team) {
        for (int column = 0; column <= 6; column++) {
            Play p = new Play("foes of " + team + " in column " + column);
            p.aside(team, 0);
            for (int k = 0; k < 5; k++) {
                p.start(1 - team, k, column, 8 - k);
            }
            p.give(team, 0, FETCH + "when 1=1{to 0 8;}}").begin(0, 1);
            p.tick(12, column <= 2 ? 3 : -1).seenBall(team, 0, 8, 5 * team, 0, 0, 0).tick(1, 2);
            int holder = 5 * (1 - team);
            p.ball(p.x.robot(holder, 0), p.x.robot(holder, 1), holder, 0, 0, 0);
        }
    }

    /** HOME's 1 catches in tick 1 what 0 kicks. */
    private static void keepsFromACatchOn() {
        Play p = new Play("KEEPS from a catch on");
        p.aside(0, 0).start(0, 0, 6, 3).start(0, 1, 5, 4).give(0, 0, FETCH + "when tick=1{kick 0-1 0 2;}}").begin(0, 1);
        p.tick(2, -1).ball(5, 4, 1).tick(11, -1).ball(5, 4, 1).tick(1, 2).score(5, 1);
    }

    /** AWAY's 0 tackles in tick 5. */
    private static void keepsFromATackleOn() {
        Play p = new Play("KEEPS from a tackle on");
        p.aside(0, 0).start(1, 0, 6, 4).give(0, 0, FETCH + "}").give(1, 0, "state s{when tick=5{move 1 0;}}").begin(0, 1);
        p.tick(6, -1).ball(8, 4, 5).tick(11, -1).ball(8, 4, 5).tick(1, 2).ball(7, 4, 0).score(7, 1);
    }

    /** A robot that kicks and gets it again got it then; one that kicks without a way keeps it. */
    private static void keepsIsBroken() {
        Play p = fetched("KEEPS is broken", 0, "when tick=11{kick 0 1 1;}when tick=12{move 0 1;}");
        p.tick(11, -1).ball(7, 5, -1).tick(1, -1).ball(7, 5, 0).tick(11, -1).ball(7, 5, 0).tick(1, 2).score(5, 1);
        p = fetched("KEEPS isn't broken", 0, "when tick=11{kick 0 0 1;}");
        p.tick(11, -1).ball(7, 4, 0).tick(1, 2);
        p = fetched("kicked in the last tick", 0, "when tick=12{kick 0 1 1;}");
        p.tick(11, -1).tick(1, -1).ball(7, 5, -1).score(5, 0);
        p = fetched("kicked to the foe", 0, "when tick=12{kick 1 0-1 3;}");
        p.tick(11, -1).tick(1, -1).score(5, 0);
    }

    /** "3 CROWD: four robots of a team or more are in its columns 0 .. 2 (as it sees them)" */
    private static void crowdSize(int team) {
        for (int many = 0; many <= 5; many++) {
            Play p = new Play(many + " robots of " + team);
            p.aside(1 - team, 0);
            for (int k = 0; k < 5; k++) {
                p.start(team, k, k < many ? k % 3 : 3, 2 + k);
            }
            int law = many < 4 ? -1 : 3;
            p.begin(0, 1).tick(1, law).score(6, many < 4 ? 0 : 1).tick(1, law).score(6, many < 4 ? 0 : 2);
            for (int k = 0; k < 5; k++) {
                int column = k < many ? k % 3 : 3;
                p.at(5 * team + k, team == 0 ? column : 14 - column, team == 0 ? 2 + k : 6 - k);
            }
        }
    }

    /** Three in columns 0, 1, 2; the fourth in each column in turn. */
    private static void crowdColumns(int team) {
        for (int column = 0; column <= 6; column++) {
            Play p = new Play("the fourth of " + team + " in column " + column);
            p.aside(1 - team, 0).start(team, 0, 0, 1).start(team, 1, 1, 1).start(team, 2, 2, 1).start(team, 3, 6, 8);
            p.start(team, 4, column, 8).begin(0, 1).tick(1, column <= 2 ? 3 : -1);
        }
        Play p = new Play("the fourth of " + team + " comes");
        p.aside(1 - team, 0).start(team, 0, 0, 1).start(team, 1, 1, 1).start(team, 2, 2, 1).start(team, 3, 6, 8);
        p.start(team, 4, 5, 7).give(team, 4, "state s{when 1=1{move 0-1 0;}}").begin(0, 1);
        p.tick(2, -1).at(4 + 5 * team, team == 0 ? 3 : 11, team == 0 ? 7 : 1).tick(1, 3).score(6, 1);
        p.at(4 + 5 * team, team == 0 ? 5 : 9, team == 0 ? 7 : 1).tick(2, -1).tick(1, 3).score(6, 2);
    }

    /** "of these the one with the greatest number is PUT at its START": all but one are there, the least comes in tick 0. */
    private static void crowdGreatest(int team) {
        for (int out = 0; out < 5; out++) {
            int least = out == 0 ? 1 : 0;
            int greatest = out == 4 ? 3 : 4;
            Play p = new Play("all of " + team + " but " + out);
            p.aside(1 - team, 0);
            for (int k = 0; k < 5; k++) {
                p.start(team, k, k == out ? 5 : k == least ? 3 : k == greatest ? 0 : 2, k + 1);
            }
            p.give(team, least, "state s{when tick=0{move 0-1 0;}}").give(team, greatest, "state s{when tick=0{move 1 0;}}");
            p.begin(0, 1).tick(1, 3).score(6, 1);
            for (int k = 0; k < 5; k++) {
                int column = k == out ? 5 : k == greatest ? 0 : 2;
                p.at(k + 5 * team, team == 0 ? column : 14 - column, team == 0 ? k + 1 : 7 - k);
            }
        }
    }

    /** Three of HOME and one of AWAY in HOME's columns are no four. */
    private static void crowdOfOneTeamAlone() {
        Play p = new Play("one of them is a foe");
        p.aside(0, 8).start(0, 1, 0, 7).start(0, 2, 1, 7).start(0, 3, 2, 7).start(0, 4, 6, 7).start(1, 0, 6, 7);
        p.give(1, 0, "state s{when 1=1{move 1 0;}}").begin(0, 1).tick(6, -1).at(5, 2, 1).tick(2, -1).at(5, 0, 1).score(6, 0);
    }

    /** PUT at a START that another robot has: a mate, or a foe; its own cell is free for it. */
    private static void crowdAtATakenStart() {
        Play p = new Play("a mate has come to the START");
        p.aside(0, 0).start(0, 1, 0, 7).start(0, 2, 1, 7).start(0, 3, 2, 7).start(0, 4, 4, 3).start(0, 0, 5, 3);
        p.give(0, 4, "state s{when 1=1{move 0-1 0;}}").give(0, 0, "state s{when tick=1{move 0-1 0;}}");
        p.begin(0, 1).tick(1, -1).at(4, 3, 3).tick(1, 3).at(0, 4, 3).at(4, 3, 2).score(6, 1);
        p = new Play("a foe has come to the START");
        p.aside(0, 0).start(0, 1, 0, 7).start(0, 2, 1, 7).start(0, 3, 2, 7).start(0, 4, 6, 3).start(1, 0, 6, 5);
        p.give(0, 4, "state s{when 1=1{move 0-1 0;}}").give(1, 0, "state s{when tick<2{move 1 0;}}");
        p.begin(0, 1).tick(3, -1).at(5, 6, 3).at(4, 3, 3).tick(1, 3).at(4, 5, 2).at(5, 6, 3);
        p = new Play("its own cell is the next");
        p.aside(0, 0).start(0, 1, 0, 7).start(0, 2, 1, 7).start(0, 3, 2, 7).start(0, 4, 3, 3).start(0, 0, 4, 3);
        p.give(0, 4, "state s{when tick=1{move 0-1 0-1;}}").give(0, 0, "state s{when tick=1{move 0-1 0;}}");
        p.begin(0, 1).tick(1, -1).tick(1, 3).at(0, 3, 3).at(4, 2, 2).tick(1, 3).at(4, 2, 2).score(6, 2);
    }

    /** "with the ball, if it HOLDS it" */
    private static void crowdWithTheBall() {
        Play p = new Play("CROWD with the ball");
        p.aside(0, 0).start(0, 0, 0, 7).start(0, 1, 1, 7).start(0, 2, 2, 7).start(0, 3, 6, 8).start(0, 4, 6, 4);
        p.give(0, 4, FETCH + "when 1=1{move 0-1 0;}}").begin(0, 1).tick(5, -1).ball(3, 4, 4).tick(1, 3);
        p.at(4, 6, 4).ball(6, 4, 4, 0, 0, 0).tick(1, -1).ball(5, 4, 4);
        p = new Play("CROWD with the ball, to another row");
        p.aside(0, 0).start(0, 0, 0, 7).start(0, 1, 1, 7).start(0, 2, 2, 7).start(0, 3, 6, 8).start(0, 4, 6, 3);
        p.give(0, 4, FETCH + "when 1=1{to 2 6;}}").begin(0, 1).tick(5, -1).ball(3, 6, 4).tick(1, 3);
        p.at(4, 6, 3).ball(6, 3, 4, 0, 0, 0).tick(1, -1).ball(5, 4, 4, 0, 0, 0);
        p = new Play("another than the holder is PUT");
        p.aside(0, 0).start(0, 1, 0, 7).start(0, 2, 1, 7).start(0, 3, 2, 7).start(0, 4, 6, 7);
        p.give(0, 0, FETCH + "when myx>2{move 0-1 0;}}").give(0, 3, "state s{when tick=5{move 0 1;}}").begin(0, 1);
        p.tick(5, -1).ball(3, 4, 0).tick(1, 3).at(3, 2, 7).ball(2, 4, 0, 0, 0, 0).at(0, 2, 4);
    }

    /** One that is PUT where a FREE ball is doesn't go there by a command, and doesn't get it. */
    private static void crowdOntoAFreeBall() {
        Play p = new Play("PUT onto a FREE ball");
        p.aside(0, 0).start(0, 0, 6, 3).start(0, 1, 1, 7).start(0, 2, 2, 7).start(0, 3, 0, 7).start(0, 4, 6, 4);
        p.give(0, 0, FETCH + "when tick=1{kick 0-1 0 1;}}").give(0, 4, "state s{when tick<4{move 0-1 0;}}");
        p.begin(0, 1).tick(2, -1).ball(6, 4, -1, 0).tick(1, -1).at(4, 3, 4).tick(1, 3).at(4, 6, 4).ball(6, 4, -1, 0, 0, 0);
        p.tick(1, -1).ball(6, 4, -1);
    }

    /** Three of HOME are in its columns 0 .. 2, and 4 comes into column 2 in one tick. */
    private static Play crowded(String name, int tick, String text) {
        Play p = new Play(name);
        p.aside(0, 0).start(0, 1, 0, 0).start(0, 2, 1, 0).start(0, 3, 2, 0).start(0, 4, 3, 8);
        p.give(0, 0, text).give(0, 4, "state s{when tick=" + tick + "{move 0-1 0;}}");
        return p.begin(0, 1);
    }

    /** "LAWS, in order, the first that applies alone" */
    private static void goalAheadOfCrowd() {
        Play p = crowded("GOAL and CROWD", 3, FETCH + "when tick=1{kick 1 0 9;}}");
        p.tick(3, -1).tick(1, 0).score(3, 1).score(6, 0).at(4, 3, 8).tick(1, -1).score(6, 0);
        p = crowded("CROWD ahead of GOAL", 2, FETCH + "when tick=1{kick 1 0 9;}}");
        p.tick(2, -1).tick(1, 3).score(6, 1).at(4, 3, 8).tick(1, 0).score(3, 1);
    }

    private static void sleepAheadOfCrowd() {
        Play p = crowded("SLEEP and CROWD", 9, "state s{}");
        p.tick(9, -1).tick(1, 1).at(4, 2, 8).score(4, 1).score(6, 0).tick(1, 3).at(4, 3, 8).score(6, 1).tick(1, -1);
        p = crowded("CROWD a tick ahead of SLEEP", 8, "state s{}");
        p.tick(8, -1).tick(1, 3).tick(1, 1).score(4, 1).score(6, 1);
    }

    private static void keepsAheadOfCrowd() {
        Play p = crowded("KEEPS and CROWD", 12, FETCH + "}");
        p.tick(12, -1).tick(1, 2).at(4, 2, 8).score(5, 1).score(6, 0).tick(1, 3).at(4, 3, 8).score(6, 1).tick(1, -1);
        p = crowded("CROWD a tick ahead of KEEPS", 11, FETCH + "}");
        p.tick(11, -1).tick(1, 3).tick(1, 2).score(5, 1).score(6, 1);
    }

    /** Promise 9: "which LAW applied in the last one, -1 none" */
    private static void lawOfTheLastTick() {
        new Play("the last of 10").begin(0, 1).tick(10, 1).score(4, 1);
        new Play("the last of 11").begin(0, 1).tick(11, -1).score(4, 1);
        new Play("the last of 9").begin(0, 1).tick(9, -1).score(4, 0);
        new Play("the last of 50").begin(0, 1).tick(50, 1).score(4, 5).score(0, 50);
        new Play("the last of 49").begin(0, 1).tick(49, -1).score(4, 4).score(0, 49);
        fetched("the last of 12", 0, "").tick(12, 2);
        fetched("the last of 13", 0, "").tick(13, -1).score(5, 1);
    }
}
