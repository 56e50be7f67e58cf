/** Promises 9, 10, 12 and 13: tick, ball, score, goal; COMMANDS, how THE BALL ROLLS, and LAWS. */
public final class MatchTest {
    public static void main(String[] args) {
        findings();
        moves();
        turnedMoves();
        order();
        kicks();
        rowRebound();
        bothRebounds();
        corner();
        diagonalGoal();
        powerEnds();
        goals();
        ownGoalAndList();
        tackle();
        sleep();
        keeps();
        crowd();
        crowdOfBoth();
        crowdWithBall();
        Due.end();
    }

    private static void findings() {
        ToyPitch x = new ToyPitch();
        Due.due("tick without a match", x.tick(0), Due.STATE);
        Due.due("ball without a match", x.ball(9), Due.STATE);
        Due.due("score without a match", x.score(9), Due.STATE);
        Due.due("goal without a match", x.goal(-1), Due.STATE);
        x.begin(0, 0);
        for (int wrong : new int[] {0, -1, 51, Integer.MIN_VALUE, Integer.MAX_VALUE}) {
            Due.due("tick " + wrong, x.tick(wrong), Due.BEYOND);
        }
        for (int wrong : new int[] {-1, 6, Integer.MIN_VALUE, Integer.MAX_VALUE}) {
            Due.due("ball " + wrong, x.ball(wrong), Due.BEYOND);
        }
        for (int wrong : new int[] {-1, 9, Integer.MIN_VALUE, Integer.MAX_VALUE}) {
            Due.due("score " + wrong, x.score(wrong), Due.BEYOND);
        }
        for (int wrong : new int[] {-1, 0, 20, Integer.MIN_VALUE, Integer.MAX_VALUE}) {
            Due.due("goal " + wrong, x.goal(wrong), Due.NONE);
        }
        for (int what = 0; what < 9; what++) {
            Due.due("score " + what, x.score(what), 0);
        }
        Due.due("found STATE", x.found(Due.STATE), 4);
        Due.due("found BEYOND", x.found(Due.BEYOND), 13);
        Due.due("found NONE", x.found(Due.NONE), 5);
        Due.due("50 ticks", x.tick(50), 1);
        Due.due("the next tick", x.score(0), 50);
    }

    private static void at(ToyPitch x, int r, int column, int row) {
        Due.due("column of " + r, x.robot(r, 0), column);
        Due.due("row of " + r, x.robot(r, 1), row);
    }

    private static void ball(ToyPitch x, int... due) {
        for (int what = 0; what < due.length; what++) {
            Due.due("ball " + what, x.ball(what), due[what]);
        }
    }

    /** One robot of a team does one command in tick 0; then it is at that cell. */
    private static void goes(int team, int startX, int startY, String command, int column, int row) {
        ToyPitch x = new ToyPitch();
        Due.give(x, team, 0, "state s{when 1=1{" + command + "}}");
        x.start(team, 0, startX, startY);
        x.begin(0, 1);
        x.tick(1);
        at(x, 5 * team, column, row);
        Due.due("command of " + command, x.robot(5 * team, 10), command.startsWith("stay") ? 0 : command.startsWith("kick") ? 2 : 1);
    }

    private static void moves() {
        goes(0, 1, 4, "move 1 0;", 2, 4);
        goes(0, 1, 4, "move 99 0-99;", 2, 3);
        goes(0, 1, 4, "move 0 0;", 1, 4);
        goes(0, 0, 0, "move 0 0-1;", 0, 0);
        goes(0, 0, 0, "move 0-1 0;", 0, 0);
        goes(0, 0, 0, "move 1 0-1;", 0, 0);
        goes(0, 0, 8, "move 0 1;", 0, 8);
        goes(0, 1, 4, "to 14 8;", 2, 5);
        goes(0, 1, 4, "to 0 4;", 0, 4);
        goes(0, 1, 4, "to 1 0;", 1, 3);
        goes(0, 1, 4, "to 1 4;", 1, 4);
        goes(0, 1, 4, "to 999 0-999;", 2, 3);
        goes(0, 4, 3, "move 1 0;", 4, 3);
        goes(0, 1, 4, "stay;", 1, 4);
        goes(0, 1, 4, "kick 1 1 1;", 1, 4);
    }

    private static void turnedMoves() {
        goes(1, 1, 4, "move 1 0;", 12, 4);
        goes(1, 1, 4, "move 0 1;", 13, 3);
        goes(1, 0, 0, "move 0-1 0;", 14, 8);
        goes(1, 1, 4, "to 14 8;", 12, 3);
        goes(1, 1, 4, "to 1 4;", 13, 4);
        goes(1, 1, 4, "to 0 5;", 14, 3);
    }

    /** Robots 3 and 4 of HOME want one cell: 3 is first in tick 0; in tick 1 the one with the greater number is. */
    private static void order() {
        ToyPitch x = new ToyPitch();
        Due.give(x, 0, 3, "state s{when tick=0{to 6 4;}when 1=1{to 5 5;}}");
        Due.give(x, 0, 4, "state s{when tick=0{to 6 4;}when 1=1{to 4 4;}}");
        x.begin(0, 1);
        x.tick(1);
        at(x, 3, 6, 4);
        at(x, 4, 5, 5);
        x.tick(1);
        at(x, 4, 4, 4);
        at(x, 3, 5, 5);
        x = new ToyPitch();
        Due.give(x, 0, 3, "state s{when tick=1{to 6 4;}}");
        Due.give(x, 0, 4, "state s{when tick=1{to 6 4;}}");
        x.begin(0, 1);
        x.tick(2);
        at(x, 3, 5, 3);
        at(x, 4, 6, 4);
    }

    /** Robot 0 of HOME gets the ball in tick 0, carries it to a column, and kicks once; AWAY's 0, 1, 2 are in column 14. */
    private static ToyPitch kicker(int column, String kick) {
        ToyPitch x = new ToyPitch();
        Due.give(x, 0, 0, "state s{when held=2 and myx<" + column + "{move 1 0;}when held=2 and a=0{set a 1;kick " + kick
            + ";}when tick=0{move 1 0;}}");
        x.start(0, 0, 6, 4);
        x.start(1, 0, 0, 8);
        x.start(1, 1, 0, 7);
        x.start(1, 2, 0, 6);
        x.begin(0, 1);
        x.tick(1);
        ball(x, 7, 4, 0, 0, 0, 0);
        if (column > 7) {
            x.tick(column - 7);
        }
        ball(x, column, 4, 0, 0, 0, 0);
        return x;
    }

    private static void kicks() {
        ToyPitch x = kicker(7, "1 0 1");
        x.tick(1);
        ball(x, 8, 4, -1, 0, 0, 0);
        Due.due("command", x.robot(0, 10), 2);
        x = kicker(7, "1 0 0-5");
        x.tick(1);
        ball(x, 8, 4, -1, 0, 0, 0);
        x = kicker(7, "5 0 4");
        x.tick(1);
        ball(x, 10, 4, -1, 1, 1, 0);
        x = kicker(7, "0 0-7 100");
        x.tick(1);
        ball(x, 7, 1, -1, 6, 0, -1);
        x = kicker(7, "0 0 9");
        x.tick(1);
        ball(x, 7, 4, 0, 0, 0, 0);
        Due.due("command as the program said", x.robot(0, 10), 2);
        x = kicker(7, "0-1 0 9");
        x.tick(2);
        ball(x, 1, 4, -1, 3, -1, 0);
    }

    private static void rowRebound() {
        ToyPitch x = kicker(7, "0 1 9");
        x.tick(1);
        ball(x, 7, 7, -1, 6, 0, 1);
        x.tick(1);
        ball(x, 7, 7, -1, 3, 0, -1);
        x.tick(1);
        ball(x, 7, 4, 0, 0, 0, 0);
    }

    private static void bothRebounds() {
        ToyPitch x = kicker(9, "1 1 8");
        x.tick(1);
        ball(x, 12, 7, -1, 5, 1, 1);
        x.tick(1);
        ball(x, 14, 7, -1, 2, 1, -1);
        x.tick(1);
        ball(x, 13, 6, -1, 0, 0, 0);
    }

    private static void corner() {
        ToyPitch x = kicker(10, "1 1 6");
        x.tick(1);
        ball(x, 13, 7, -1, 3, 1, 1);
        x.tick(1);
        ball(x, 13, 7, -1, 0, 0, 0);
        x = kicker(10, "1 1 5");
        x.tick(2);
        ball(x, 14, 8, -1, 0, 0, 0);
    }

    /** From (14, 5) by way (1, -1): the row of the next cell, 4, is a goal's. From (14, 6): 5 is; from (14, 3) with 2 not. */
    private static void diagonalGoal() {
        ToyPitch x = kicker(7, "1 1 9");
        Due.due("no law", x.tick(2), -1);
        ball(x, 12, 7, -1, 3, 1, -1);
        Due.due("goal", x.tick(1), 0);
        Due.due("goal", x.goal(0), 3);
        x = kicker(13, "1 1 2");
        Due.due("(14, 5), then row 6 is none", x.tick(1), -1);
        ball(x, 14, 5, -1, 0, 0, 0);
        x = kicker(13, "1 1 3");
        x.tick(1);
        ball(x, 13, 6, -1, 0, 0, 0);
        x = kicker(14, "1 1 3");
        Due.due("row 5 is", x.tick(1), 0);
        x = kicker(14, "1 0-1 3");
        Due.due("row 3 is", x.tick(1), 0);
    }

    private static void powerEnds() {
        ToyPitch x = kicker(7, "1 0 7");
        x.tick(3);
        ball(x, 14, 4, -1, 0, 0, 0);
        Due.due("SLEEP comes 10 ticks long after", x.tick(8), -1);
        Due.due("SLEEP", x.tick(1), 1);
        ball(x, 6, 3, -1, 0, 0, 0);
    }

    private static void goals() {
        ToyPitch x = kicker(7, "1 0 9");
        Due.due("two ticks", x.tick(2), -1);
        ball(x, 13, 4, -1, 3, 1, 0);
        Due.due("GOAL", x.tick(1), 0);
        ball(x, 7, 4, -1, 0, 0, 0);
        at(x, 0, 6, 4);
        Due.due("its own numbers are 0", x.robot(0, 4), 0);
        Due.due("view", x.robot(0, 8), 7);
        Due.due("goal 0", x.goal(0), 3);
        Due.due("goal 1", x.goal(1), Due.NONE);
        int[] score = {4, 1, 0, 1, 0, 0, 0, 0, 0};
        for (int what = 0; what < 9; what++) {
            Due.due("score " + what, x.score(what), score[what]);
        }
        Due.due("SLEEP, counted from the KICK-OFF on", x.tick(9), -1);
        Due.due("SLEEP", x.tick(1), 1);
    }

    /** HOME kicks into its own goal from the start on, again and again; of more than 20 the first 20 are told. */
    private static void ownGoalAndList() {
        ToyPitch x = new ToyPitch();
        Due.give(x, 0, 0, "state s{when held=2{kick 0-1 0 9;}when 1=1{to ballx bally;}}");
        for (int k = 1; k < 5; k++) {
            x.start(0, k, 2 + k, 0);
            x.start(1, k, 2 + k, 0);
        }
        x.start(0, 0, 6, 3);
        x.begin(0, 1);
        Due.due("tick 0, 1, 2", x.tick(3), -1);
        Due.due("GOAL", x.tick(1), 0);
        Due.due("goal 0", x.goal(0), 1003);
        Due.due("AWAY's", x.score(2), 1);
        Due.due("HOME's", x.score(1), 0);
        Due.due("tick 4 .. 49", x.tick(46), -1);
        Due.due("tick 50 .. 99", x.tick(50), 0);
        Due.due("AWAY's", x.score(2), 25);
        Due.due("law 0", x.score(3), 25);
        for (int i = 0; i < 20; i++) {
            Due.due("goal " + i, x.goal(i), 1003 + 4 * i);
        }
        Due.due("goal 20 isn't told", x.goal(20), Due.NONE);
        ToyPitch y = new ToyPitch();
        Due.give(y, 1, 0, "state s{when 1=1{set a lead;}when held=2{kick 1 0 9;}when 1=1{to ballx bally;}}");
        y.start(1, 0, 6, 4);
        y.start(0, 0, 0, 0);
        y.begin(0, 1);
        Due.due("tick 0 .. 2", y.tick(3), -1);
        Due.due("AWAY shoots", y.tick(1), 0);
        Due.due("goal 0", y.goal(0), 1003);
        y.tick(1);
        Due.due("lead", y.robot(5, 4), 1);
    }

    /** HOME's 0 has the ball from tick 0 on at (7, 4); AWAY's 3 comes from (9, 5), is beside it in tick 0, and tackles in tick 2. */
    private static void tackle() {
        ToyPitch x = new ToyPitch();
        Due.give(x, 0, 0, "state s{when tick=0{move 1 0;}when tick=4{move 1 1;}}");
        Due.give(x, 1, 3, "state s{when 1=1{to ballx bally;}}");
        x.start(0, 0, 6, 4);
        x.begin(0, 1);
        x.tick(2);
        at(x, 8, 8, 4);
        ball(x, 7, 4, 0);
        Due.due("none yet", x.score(7), 0);
        x.tick(1);
        ball(x, 8, 4, 8);
        Due.due("TACKLE", x.score(7), 1);
        at(x, 8, 8, 4);
        at(x, 0, 7, 4);
        x = new ToyPitch();
        Due.give(x, 0, 0, "state s{when tick=0{move 1 0;}}");
        Due.give(x, 0, 3, "state s{when 1=1{to ballx bally;}}");
        x.start(0, 0, 6, 4);
        x.begin(0, 1);
        x.tick(9);
        ball(x, 7, 4, 0);
        Due.due("no mate tackles", x.score(7), 0);
    }

    private static void sleep() {
        ToyPitch x = new ToyPitch();
        x.begin(0, 1);
        Due.due("9 ticks", x.tick(9), -1);
        Due.due("SLEEP", x.tick(1), 1);
        Due.due("9 ticks", x.tick(9), -1);
        Due.due("SLEEP", x.tick(1), 1);
        Due.due("SLEEP twice", x.score(4), 2);
        x = kicker(7, "0 1 2");
        Due.due("lies at (7, 6)", x.tick(9), -1);
        ball(x, 7, 6, -1);
        Due.due("10 ends of ticks", x.tick(1), 1);
        ball(x, 6, 3, -1, 0, 0, 0);
        Due.due("the view of 4 is old", x.robot(4, 9), 6);
    }

    /** HOME's 0 gets it in tick 0: in tick 12 the nearest foe has it, of 8 and 9 the least. */
    private static void keeps() {
        ToyPitch x = new ToyPitch();
        Due.give(x, 0, 0, "state s{when tick=0{move 1 0;}}");
        x.start(0, 0, 6, 4);
        x.begin(0, 1);
        Due.due("ticks 0 .. 11", x.tick(12), -1);
        ball(x, 7, 4, 0);
        Due.due("KEEPS", x.tick(1), 2);
        ball(x, 9, 5, 8, 0, 0, 0);
        Due.due("ticks 13 .. 23", x.tick(11), -1);
        Due.due("KEEPS: 0 is the nearest", x.tick(1), 2);
        ball(x, 7, 4, 0);
        Due.due("how often", x.score(5), 2);
    }

    private static void crowd() {
        ToyPitch x = new ToyPitch();
        Due.give(x, 0, 3, "state s{when 1=1{move 0-1 0;}}");
        x.start(0, 1, 2, 2);
        x.start(0, 2, 2, 6);
        x.begin(0, 1);
        Due.due("ticks 0, 1", x.tick(2), -1);
        at(x, 3, 3, 3);
        Due.due("CROWD", x.tick(1), 3);
        at(x, 3, 5, 3);
        Due.due("how often", x.score(6), 1);
        x = new ToyPitch();
        Due.give(x, 1, 3, "state s{when 1=1{move 0-1 0;}}");
        x.start(1, 1, 2, 2);
        x.start(1, 2, 2, 6);
        x.begin(0, 1);
        Due.due("ticks 0, 1", x.tick(2), -1);
        Due.due("CROWD of AWAY", x.tick(1), 3);
        at(x, 8, 9, 5);
    }

    /** Both teams' fours crowd in tick 2: the law is done for HOME's first, for AWAY's a tick later. */
    private static void crowdOfBoth() {
        ToyPitch x = new ToyPitch();
        Due.give(x, 0, 3, "state s{when tick<3{move 0-1 0;}}");
        x.start(0, 1, 2, 2);
        x.start(0, 2, 2, 6);
        x.begin(0, 0);
        Due.due("CROWD", x.tick(3), 3);
        at(x, 3, 5, 3);
        at(x, 8, 12, 5);
        Due.due("CROWD", x.tick(1), 3);
        at(x, 8, 9, 5);
        Due.due("no more", x.tick(1), -1);
        Due.due("how often", x.score(6), 2);
    }

    /** Robot 4 fetches the ball, runs home with it, and is PUT at its START, which 3 has taken: beside it, with the ball. */
    private static void crowdWithBall() {
        ToyPitch x = new ToyPitch();
        Due.give(x, 0, 4, "state s{when held=2{to 2 4;}when 1=1{to ballx bally;}}");
        Due.give(x, 0, 3, "state s{when tick=4{to 6 5;}}");
        x.start(0, 0, 0, 4);
        x.start(0, 1, 0, 2);
        x.start(0, 2, 0, 6);
        x.start(0, 3, 6, 6);
        x.start(0, 4, 6, 5);
        x.begin(0, 1);
        Due.due("ticks 0 .. 4", x.tick(5), -1);
        ball(x, 3, 4, 4);
        at(x, 3, 6, 5);
        Due.due("CROWD", x.tick(1), 3);
        at(x, 4, 5, 4);
        ball(x, 5, 4, 4, 0, 0, 0);
        Due.due("it goes on with the ball", x.tick(1), -1);
        ball(x, 4, 4, 4, 0, 0, 0);
    }
}
