/** Promises 1 and 5 to 8 and the terms of THE FIELD: what a team may have, STARTS, to be PUT, KICK-OFF. */
public final class FieldEdgeTest {
    private static final int[] TEAMS = {Integer.MIN_VALUE, -1, 0, 1, 2, 3, 4, Integer.MAX_VALUE};
    private static final int[] ROBOTS = {Integer.MIN_VALUE, -1, 0, 1, 2, 3, 4, 5, Integer.MAX_VALUE};

    public static void main(String[] args) {
        newObject();
        programs();
        programOfEachRobot();
        startCells();
        startOfEachRobot();
        views();
        begins();
        beginInPlaceOfAnother();
        putAtOneCell();
        putBesideOthers();
        ballIsPut();
        kickOffBehindAGoal();
        kickOffWhereOthersStood();
        takenAtAGoal();
        Due.end();
    }

    private static boolean isIn(int value, int least, int most) {
        return value >= least && value <= most;
    }

    /** "No programs, teams as told, no match, an empty tape." */
    private static void newObject() {
        ToyPitch x = new ToyPitch();
        for (int what = 0; what < 5; what++) {
            Due.due("count(" + what + ")", x.count(what), 0);
        }
        int[][] starts = {{1, 4}, {3, 2}, {3, 6}, {5, 3}, {5, 5}};
        for (int team = 0; team < 4; team++) {
            Due.due("program 0 of team " + team, x.program(team, 0, 0), Due.BEYOND);
            Due.due("begin", x.begin(team, 3 - team), 1);
            for (int k = 0; k < 5; k++) {
                Due.due("column", x.robot(k, 0), starts[k][0]);
                Due.due("row", x.robot(k, 1), starts[k][1]);
                Due.due("column of AWAY", x.robot(5 + k, 0), 14 - starts[k][0]);
                Due.due("row of AWAY", x.robot(5 + k, 1), 8 - starts[k][1]);
                Due.due("no program", x.robot(k, 2), -1);
            }
        }
    }

    /** "BEYOND: there is no such team, robot (0 .. 4) or program."; "(-1: none)" */
    private static void programs() {
        for (int many = 0; many <= 6; many++) {
            ToyPitch x = new ToyPitch();
            for (int i = 0; i < many; i++) {
                Due.due("read", Due.readText(x, "state s{}"), i);
            }
            int wrong = 0;
            for (int program : new int[] {Integer.MIN_VALUE, -2, -1, 0, many - 1, many, many + 1, 6, Integer.MAX_VALUE}) {
                boolean isGood = isIn(program, -1, many - 1);
                wrong += isGood ? 0 : 1;
                Due.due("program " + program + " of " + many, x.program(3, 4, program), isGood ? 1 : Due.BEYOND);
            }
            for (int team : TEAMS) {
                for (int k : ROBOTS) {
                    boolean isGood = isIn(team, 0, 3) && isIn(k, 0, 4);
                    wrong += isGood ? 0 : 1;
                    Due.due("program(" + team + ", " + k + ")", x.program(team, k, -1), isGood ? 1 : Due.BEYOND);
                }
            }
            Due.due("found BEYOND", x.found(Due.BEYOND), wrong);
        }
    }

    private static void programOfEachRobot() {
        for (int team = 0; team < 4; team++) {
            for (int k = 0; k < 5; k++) {
                Play p = new Play("program of " + team + " " + k).give(team, k, "state s{}");
                for (int other = 0; other < 4; other++) {
                    p.begin(other, team);
                    for (int r = 0; r < 10; r++) {
                        boolean has = r % 5 == k && (r >= 5 || other == team);
                        p.robot(r, 2, has ? 0 : -1);
                    }
                }
                p.due("none", p.x.program(team, k, -1), 1).begin(team, team).robot(k, 2, -1).robot(k + 5, 2, -1);
            }
        }
    }

    /** "a START (column 0 .. 6, row 0 .. 8 ..)"; "its STARTS are turned so" */
    private static void startCells() {
        for (int column = -1; column <= 7; column++) {
            ToyPitch x = new ToyPitch();
            for (int row = -1; row <= 9; row++) {
                boolean isStart = isIn(column, 0, 6) && isIn(row, 0, 8);
                Due.due("start at " + column + " " + row, x.start(2, 0, column, row), isStart ? 1 : Due.BEYOND);
                if (isStart) {
                    x.begin(2, 2);
                    Due.due("column", x.robot(0, 0), column);
                    Due.due("row", x.robot(0, 1), row);
                    Due.due("column of AWAY", x.robot(5, 0), 14 - column);
                    Due.due("row of AWAY", x.robot(5, 1), 8 - row);
                }
            }
        }
        ToyPitch x = new ToyPitch();
        for (int far : new int[] {Integer.MIN_VALUE, Integer.MAX_VALUE, -7, 14, 256}) {
            Due.due("start column " + far, x.start(0, 0, far, 0), Due.BEYOND);
            Due.due("start row " + far, x.start(0, 0, 0, far), Due.BEYOND);
        }
        for (int team : TEAMS) {
            for (int k : ROBOTS) {
                boolean isGood = isIn(team, 0, 3) && isIn(k, 0, 4);
                Due.due("start(" + team + ", " + k + ")", x.start(team, k, 0, 0), isGood ? 1 : Due.BEYOND);
            }
        }
    }

    private static void startOfEachRobot() {
        int[][] first = {{1, 4}, {3, 2}, {3, 6}, {5, 3}, {5, 5}};
        for (int team = 0; team < 4; team++) {
            for (int k = 0; k < 5; k++) {
                Play p = new Play("START of " + team + " " + k).start(team, k, 6, 8);
                for (int other = 0; other < 4; other++) {
                    p.begin(other, team);
                    for (int r = 0; r < 5; r++) {
                        boolean isNew = r == k && other == team;
                        p.at(r, isNew ? 6 : first[r][0], isNew ? 8 : first[r][1]);
                        p.at(r + 5, r == k ? 8 : 14 - first[r][0], r == k ? 0 : 8 - first[r][1]);
                    }
                }
            }
        }
    }

    /** "LATE (0 .. 3 ..) and LOST (0, or 2 .. 9 ..)"; "BEYOND: there is no such team, or one isn't as told." */
    private static void views() {
        int[] values = {Integer.MIN_VALUE, -1, 0, 1, 2, 3, 4, 8, 9, 10, Integer.MAX_VALUE};
        ToyPitch x = new ToyPitch();
        int wrong = 0;
        for (int late : values) {
            for (int lost : values) {
                boolean isGood = isIn(late, 0, 3) && (lost == 0 || isIn(lost, 2, 9));
                wrong += isGood ? 0 : 1;
                Due.due("views late " + late + ", lost " + lost, x.views(3, late, lost), isGood ? 1 : Due.BEYOND);
            }
        }
        for (int team : TEAMS) {
            boolean isGood = isIn(team, 0, 3);
            wrong += isGood ? 0 : 1;
            Due.due("views of team " + team, x.views(team, 3, 9), isGood ? 1 : Due.BEYOND);
        }
        Due.due("found BEYOND", x.found(Due.BEYOND), wrong);
    }

    /** "A match of two teams (or of one with itself)"; "BEYOND: there is no such team." */
    private static void begins() {
        ToyPitch x = new ToyPitch();
        for (int home : TEAMS) {
            for (int away : TEAMS) {
                if (!isIn(home, 0, 3) || !isIn(away, 0, 3)) {
                    Due.due("begin(" + home + ", " + away + ")", x.begin(home, away), Due.BEYOND);
                    Due.due("no match", x.count(4), 0);
                }
            }
        }
        for (int home = 0; home < 4; home++) {
            for (int away = 0; away < 4; away++) {
                Due.due("begin(" + home + ", " + away + ")", x.begin(home, away), 1);
                Due.due("a match", x.count(4), 1);
            }
        }
    }

    /** "in place of one that was": nothing of that shows. */
    private static void beginInPlaceOfAnother() {
        Play p = new Play("begin anew");
        p.aside(0, 0).give(0, 0, "state s{when 1=1{go z;set a 5;set d 7;}when held=2{kick 1 0 9;}when 1=1{to ballx bally;}}"
            + "state z{when held=2{kick 1 0 9;}when 1=1{to ballx bally;}}");
        p.begin(0, 1).tick(4, 0).goal(0, 3).tick(2, -1).robot(0, 10, 2).robot(0, 2, 1);
        p.begin(0, 1).goal(0, Due.NONE).ball(7, 4, -1, 0, 0, 0).at(0, 6, 4).own(0, 0, 0, 0, 0);
        p.robot(0, 2, 0).robot(0, 3, 0).robot(0, 8, 7).robot(0, 9, 4).robot(0, 10, 0);
        for (int what = 0; what < 9; what++) {
            p.score(what, 0);
        }
        p.tick(8, 0).goal(0, 3).goal(1, 7).goal(2, Due.NONE);
        scoresBeginAtNought();
    }

    /** A match in which all nine scores come to be above 0, and the next one, in which they are 0 again. */
    private static void scoresBeginAtNought() {
        Play p = new Play("scores");
        p.aside(0, 0).start(1, 0, 6, 4).start(0, 1, 0, 0).start(0, 2, 1, 0).start(0, 3, 2, 0).start(0, 4, 3, 8);
        p.give(0, 0, "state s{when lead=1 and held=2{kick 0-1 0 9;}when tick=0{move 1 0;}when tick=2{stay;}when tick=5{move 1 0;}"
            + "when tick=6{move 0 1;}when tick=7{move 1 0;}when tick=8{move 1 0;}when tick=9{kick 1 0 9;}when lead=1{to 7 4;}"
            + "when tick=25{move 1 0;}}");
        p.give(1, 0, "state s{when tick=2{move 1 0;}}");
        p.give(0, 4, "state s{when tick=1{move 0-1 0;}}");
        p.give(1, 1, "state s{when 1=1" + " and 1=1".repeat(27) + "{}}");
        p.begin(0, 1).tick(1, -1).score(8, 1).tick(1, 3).score(6, 1).tick(1, -1).score(7, 1).tick(2, -1).tick(1, -1).score(7, 2);
        p.tick(4, -1).tick(1, 0).score(1, 1).tick(4, 0).score(2, 1).tick(10, 1).score(4, 1).tick(12, -1).tick(1, 2);
        int[] scores = {38, 1, 1, 2, 1, 1, 1, 2, 3};
        for (int what = 0; what < 9; what++) {
            p.score(what, scores[what]);
        }
        p.begin(0, 1);
        for (int what = 0; what < 9; what++) {
            p.score(what, 0);
        }
    }

    private static int[] nearestFree(boolean[] taken, int column, int row) {
        int[] best = null;
        int least = 99;
        for (int x = 0; x < 15; x++) {
            for (int y = 0; y < 9; y++) {
                int far = Play.distance(x, y, column, row);
                if (!taken[x + 15 * y] && far < least) {
                    best = new int[] {x, y};
                    least = far;
                }
            }
        }
        return best;
    }

    /** "there, if no other robot is there; else at the free one of least DISTANCE .., of several .. the least column, then row" */
    private static void putAtOneCell() {
        for (int column = 0; column < 7; column++) {
            for (int row = 0; row < 9; row++) {
                Play p = new Play("all at " + column + " " + row);
                for (int k = 0; k < 5; k++) {
                    p.start(0, k, column, row).start(1, k, column, row);
                }
                p.begin(0, 1);
                boolean[] taken = new boolean[135];
                for (int r = 0; r < 10; r++) {
                    int[] cell = nearestFree(taken, r < 5 ? column : 14 - column, r < 5 ? row : 8 - row);
                    p.at(r, cell[0], cell[1]);
                    taken[cell[0] + 15 * cell[1]] = true;
                }
                int[] cell = nearestFree(taken, 7, 4);
                p.ball(cell[0], cell[1], -1, 0, 0, 0);
            }
        }
    }

    /** By hand: the eight cells around one in their order, corners of the field, and the second ring. */
    private static void putBesideOthers() {
        Play p = new Play("midfield");
        for (int k = 0; k < 5; k++) {
            p.start(0, k, 3, 4).start(1, k, 6, 4);
        }
        p.begin(0, 1).at(0, 3, 4).at(1, 2, 3).at(2, 2, 4).at(3, 2, 5).at(4, 3, 3);
        p.at(5, 8, 4).at(6, 7, 3).at(7, 7, 4).at(8, 7, 5).at(9, 8, 3).ball(6, 3);
        p = new Play("a corner, then the second ring");
        for (int k = 0; k < 5; k++) {
            p.start(0, k, 0, 8).start(1, k, 0, 8);
        }
        p.begin(0, 1).at(0, 0, 8).at(1, 0, 7).at(2, 1, 7).at(3, 1, 8).at(4, 0, 6);
        p.at(5, 14, 0).at(6, 13, 0).at(7, 13, 1).at(8, 14, 1).at(9, 12, 0);
        p = new Play("one that was put aside is in the way of a later one");
        p.start(0, 0, 3, 3).start(0, 1, 3, 3).start(0, 2, 2, 2).start(0, 3, 6, 6).start(0, 4, 3, 3);
        p.begin(0, 1).at(0, 3, 3).at(1, 2, 2).at(2, 1, 1).at(3, 6, 6).at(4, 2, 3);
    }

    /** "(The ball: the same, if a robot is there.)" */
    private static void ballIsPut() {
        Play p = new Play("nobody there").begin(0, 1).ball(7, 4, -1, 0, 0, 0);
        p = new Play("both fives in the middle");
        for (int k = 0; k < 5; k++) {
            p.start(0, k, 6, 4).start(1, k, 6, 4);
        }
        p.begin(0, 1).at(4, 6, 3).at(0, 6, 4).at(7, 7, 4).ball(6, 5, -1, 0, 0, 0);
        for (int r = 0; r < 10; r++) {
            p.robot(r, 8, 6).robot(r, 9, 5);
        }
        p = new Play("AWAY's five alone");
        for (int k = 0; k < 5; k++) {
            p.start(1, k, 6, 4);
        }
        p.begin(0, 1).at(7, 7, 4).ball(6, 3, -1, 0, 0, 0);
    }

    /** HOME's 0 shoots a goal in tick 3; meanwhile other robots go, set numbers, change states, and one is STOPPED. */
    private static Play untilGoal() {
        Play p = new Play("KICK-OFF behind a goal");
        p.aside(0, 0);
        p.give(0, 0, "state s{when held=2{kick 1 0 9;}when 1=1{to ballx bally;}}");
        p.give(0, 1, "state s{when 1=1{go z;set a 3;set b 4;set c 5;set d 6;}}state z{when 1=1{move 0 1;}}");
        p.give(1, 0, "state s{when 1=1 and 1=1" + " and 1=1".repeat(24) + "{}}");
        p.begin(0, 1).tick(3, -1);
        return p.own(1, 3, 4, 5, 6).robot(1, 2, 1).at(1, 3, 2).robot(5, 3, 0).robot(5, 2, 0);
    }

    /** "in the first state of their program, their own numbers 0, not STOPPED; the ball is FREE at (7, 4) .. and lies still" */
    private static void kickOffBehindAGoal() {
        Play p = untilGoal();
        p.tick(1, 0).at(0, 6, 4).at(1, 3, 0).own(1, 0, 0, 0, 0).robot(1, 2, 0).ball(7, 4, -1, 0, 0, 0);
        for (int r = 0; r < 10; r++) {
            p.robot(r, 3, 0).robot(r, 8, 7).robot(r, 9, 4);
        }
        p.score(0, 4).tick(1, -1).own(1, 3, 4, 5, 6).robot(1, 2, 1);
        p = new Play("STOPPED until the KICK-OFF");
        p.aside(0, 0);
        p.give(0, 0, "state s{when held=2{kick 1 0 9;}when 1=1{to ballx bally;}}");
        p.give(1, 4, "state s{when 1=1{set a a+1;go z;}}state z{when 1=1" + " and 1=1".repeat(26) + "{}}");
        p.begin(0, 1).tick(1, -1).robot(9, 3, 0).robot(9, 2, 1).own(9, 1);
        p.tick(1, -1).robot(9, 3, 1).robot(9, 2, 1).score(8, 1).tick(1, -1).robot(9, 3, 1).score(8, 1);
        p.tick(1, 0).robot(9, 3, 0).robot(9, 2, 0).own(9, 0).score(8, 1);
        p.tick(1, -1).robot(9, 3, 0).robot(9, 2, 1).own(9, 1).tick(1, -1).robot(9, 3, 1).score(8, 2);
    }

    /** All leave their cells ahead of a KICK-OFF: nobody is put aside since another stood at its START. */
    private static void kickOffWhereOthersStood() {
        Play p = new Play("others stood at STARTS");
        p.aside(0, 0);
        p.give(0, 0, "state s{when held=2{kick 1 0 9;}when 1=1{to ballx bally;}}");
        p.give(0, 1, "state s{when tick=1{to 4 0;}}");
        p.give(0, 2, "state s{when tick=0{move 0 1;}when tick=2{to 3 0;}}");
        p.begin(0, 1).tick(3, -1).at(1, 4, 0).at(2, 3, 0);
        p.tick(1, 0).at(1, 3, 0).at(2, 4, 0).at(3, 5, 0).at(4, 6, 0);
    }

    /** "A match that goes on takes it at its next KICK-OFF": a goal's. */
    private static void takenAtAGoal() {
        Play p = new Play("taken at a goal's KICK-OFF");
        p.aside(0, 0).give(0, 0, "state s{when held=2{kick 1 0 9;}when 1=1{to ballx bally;}}");
        p.begin(0, 1).tick(1, -1);
        p.give(0, 3, "state s{when 1=1{move 0 1;}}").start(0, 4, 0, 7).start(1, 2, 0, 0).views(1, 3, 0);
        p.due("none", p.x.program(0, 0, -1), 1);
        p.robot(3, 2, -1).robot(0, 2, 0).at(4, 6, 0).tick(1, -1).at(3, 5, 0).tick(1, -1).robot(7, 8, 10).at(7, 9, 0);
        p.tick(1, 0).robot(3, 2, 0).robot(0, 2, -1).at(4, 0, 7).at(7, 14, 8).at(3, 5, 0);
        p.tick(1, -1).at(3, 5, 1).at(0, 6, 4);
        p.start(0, 0, 2, 2).due("none", p.x.program(0, 3, -1), 1).tick(1, -1).at(3, 5, 2).at(0, 6, 4);
        p.begin(0, 1).at(0, 2, 2).robot(3, 2, -1);
    }
}
