/** Of promise 9 to 12: each sentence of COMMANDS: ways and their signs, the field's edge, robots in the way, TACKLES, kicks. */
public final class CommandsEdgeTest {
    private static final int MIN = Integer.MIN_VALUE;
    private static final int MAX = Integer.MAX_VALUE;
    private static final int[] VALUES = {MIN, MIN + 1, -999, -2, -1, 0, 1, 2, 999, MAX - 1, MAX};

    public static void main(String[] args) {
        for (int team = 0; team < 2; team++) {
            nearEdge(team);
            farEdge(team);
            signsOfMove(team);
            signsOfKick(team);
            signsOfTo(team);
            robotInTheWay(team);
            freeBall(team);
            tackleTime(team);
            kicksThatStay(team);
        }
        toWraps();
        orderOfNumbers();
        followers();
        oneCellForTwo();
        tackledTacklesBack();
        caughtIsHeldFromThen();
        keptIsHeldFromThen();
        noTackle();
        tackleAndOrder();
        tackleFromEachSide();
        ballGoesWithItsHolder();
        Due.end();
    }

    private static String number(int value) {
        if (value == MIN + 1) {
            return "512*512*512*16+1";
        }
        return value == MAX - 1 ? "512*512*512*16-2" : Play.sum(value);
    }

    /** Robot 0 of a team starts somewhere, does one command in a tick, and is then at a cell, all as the team sees it. */
    private static Play goes(Play p, int team, int column, int row) {
        return p.at(5 * team, team == 0 ? column : 14 - column, team == 0 ? row : 8 - row);
    }

    private static Play alone(int team, int column, int row, String text) {
        Play p = new Play("team " + team + " at " + column + " " + row + ": " + text);
        p.aside(team, row <= 4 ? 8 : 0).start(team, 0, column, row).give(team, 0, text);
        return p.begin(0, 1);
    }

    private static boolean isField(int column, int row) {
        return column >= 0 && column < 15 && row >= 0 && row < 9;
    }

    /** "The cell there: beyond the field: it stays." - in columns and rows, and across corners. */
    private static void nearEdge(int team) {
        int[][] cells = {{0, 0}, {0, 4}, {0, 8}, {3, 0}, {3, 8}, {1, 1}, {1, 7}};
        for (int[] cell : cells) {
            for (int wayX = -1; wayX <= 1; wayX++) {
                for (int wayY = -1; wayY <= 1; wayY++) {
                    int column = cell[0] + wayX;
                    int row = cell[1] + wayY;
                    boolean isThere = isField(column, row);
                    String way = Play.sum(wayX) + " " + Play.sum(wayY);
                    Play p = alone(team, cell[0], cell[1], "state s{when 1=1{move " + way + ";}}").tick(1, -1);
                    goes(p, team, isThere ? column : cell[0], isThere ? row : cell[1]).robot(5 * team, 10, 1);
                }
            }
        }
    }

    private static void farEdge(int team) {
        for (int row : new int[] {0, 2, 8}) {
            for (int wayX = -1; wayX <= 1; wayX++) {
                for (int wayY = -1; wayY <= 1; wayY++) {
                    boolean isThere = isField(14 + wayX, row + wayY);
                    String way = Play.sum(wayX) + " " + Play.sum(wayY);
                    Play p = alone(team, 6, row, "state s{when tick<8{move 1 0;}when tick=8{move " + way + ";}}").tick(7, -1);
                    goes(p, team, 13, row).tick(1, -1);
                    goes(p, team, 14, row).tick(1, -1);
                    goes(p, team, isThere ? 14 + wayX : 14, isThere ? row + wayY : row);
                }
            }
        }
    }

    /** "a way of signs (each of x, y cut to -1, 0, 1)"; "A way 0 0: it stays." */
    private static void signsOfMove(int team) {
        for (int x : VALUES) {
            for (int y : VALUES) {
                Play p = alone(team, 3, 3, "state s{when 1=1{move " + number(x) + " " + number(y) + ";}}").tick(1, -1);
                goes(p, team, 3 + Integer.signum(x), 3 + Integer.signum(y)).robot(5 * team, 10, 1);
            }
        }
    }

    private static void signsOfKick(int team) {
        for (int x : VALUES) {
            for (int y : VALUES) {
                if (x != 0 || y != 0) {
                    Play p = Play.carrier("way", team, 7, 4, number(x) + " " + number(y) + " 1").tick(1, -1);
                    p.seenBall(team, 7 + Integer.signum(x), 4 + Integer.signum(y), -1, 0, 0, 0);
                }
            }
        }
    }

    /** "to x y: the way to there: the signs of x less its column, y less its row" */
    private static void signsOfTo(int team) {
        int[] targets = {-999, -1, 0, 2, 3, 4, 14, 15, 999};
        for (int x : targets) {
            for (int y : targets) {
                Play p = alone(team, 3, 3, "state s{when 1=1{to " + number(x) + " " + number(y) + ";}}").tick(1, -1);
                goes(p, team, 3 + Integer.compare(x, 3), 3 + Integer.compare(y, 3)).robot(5 * team, 10, 1);
            }
        }
    }

    /** All by ints, wrapping: the least int less a column that isn't 0 is a great one. */
    private static void toWraps() {
        goes(alone(0, 3, 3, "state s{when 1=1{to " + number(MIN) + " 3;}}").tick(1, -1), 0, 4, 3);
        goes(alone(0, 3, 3, "state s{when 1=1{to 3 " + number(MIN) + ";}}").tick(1, -1), 0, 3, 4);
        goes(alone(0, 0, 3, "state s{when 1=1{to " + number(MIN) + " 3;}}").tick(1, -1), 0, 0, 3);
        goes(alone(0, 3, 3, "state s{when 1=1{to " + number(MIN) + "+3 3;}}").tick(1, -1), 0, 2, 3);
        goes(alone(0, 3, 3, "state s{when 1=1{to " + number(MIN) + "+2 3;}}").tick(1, -1), 0, 4, 3);
        goes(alone(0, 3, 3, "state s{when 1=1{to " + number(MAX) + " 3;}}").tick(1, -1), 0, 4, 3);
        goes(alone(1, 3, 3, "state s{when 1=1{to " + number(MIN) + " 3;}}").tick(1, -1), 1, 4, 3);
    }

    /** "A robot there: ..; else it stays." - a mate, and a foe without the ball. */
    private static void robotInTheWay(int team) {
        Play p = new Play("a mate in the way of " + team);
        p.aside(team, 0).start(team, 0, 3, 3).start(team, 1, 4, 3).give(team, 0, "state s{when 1=1{move 1 0;}}").begin(0, 1);
        goes(p.tick(1, -1), team, 3, 3).robot(5 * team, 10, 1);
        goes(p.tick(5, -1), team, 3, 3).score(7, 0);
        p = new Play("a foe in the way of " + team);
        p.aside(team, 0).start(team, 0, 6, 6).start(1 - team, 0, 6, 2).give(team, 0, "state s{when 1=1{move 1 0;}}").begin(0, 1);
        goes(p.tick(1, -1), team, 7, 6);
        goes(p.tick(5, -1), team, 7, 6).score(7, 0).ball(7, 4, -1);
    }

    /** "Else it goes there; if the ball is FREE there it HOLDS it." */
    private static void freeBall(int team) {
        Play p = alone(team, 6, 4, "state s{when tick=2{move 1 0;}}");
        p.tick(2, -1).ball(7, 4, -1).tick(1, -1).ball(7, 4, 5 * team, 0, 0, 0);
        p = alone(team, 6, 4, "state s{when tick=0{move 1 1;}when tick=1{move 0 0-1;}}");
        p.tick(1, -1).ball(7, 4, -1).tick(1, -1).ball(7, 4, 5 * team);
        p = Play.carrier("it stands on a FREE ball", team, 7, 8, "0 1 1");
        p.tick(1, -1).seenBall(team, 7, 8, -1, 0, 0, 0).tick(3, -1).seenBall(team, 7, 8, -1, 0, 0, 0);
    }

    /** Robot 0 of a team gets the ball in tick 0 at (7, 4); the foe beside it moves there in one tick. */
    private static Play facing(int team, String holder, int tick) {
        Play p = new Play("team " + team + " holds, foe moves in tick " + tick);
        p.aside(team, 0).start(1 - team, 0, 6, 4).give(team, 0, "state s{when tick=0{move 1 0;}" + holder + "}");
        p.give(1 - team, 0, "state s{when tick=" + tick + "{move 1 0;}}");
        return p.begin(0, 1).tick(1, -1).ball(7, 4, 5 * team);
    }

    /** "has held it for 2 ticks or more (got it 2 ticks ago or earlier), a TACKLE: the mover HOLDS it from now on" */
    private static void tackleTime(int team) {
        int foe = 5 * (1 - team);
        int foeColumn = team == 0 ? 8 : 6;
        facing(team, "", 1).tick(1, -1).ball(7, 4, 5 * team).score(7, 0).robot(foe, 10, 1).at(foe, foeColumn, 4);
        for (int tick = 2; tick <= 5; tick++) {
            Play p = facing(team, "", tick).tick(tick - 1, -1).ball(7, 4, 5 * team).score(7, 0);
            p.tick(1, -1).ball(foeColumn, 4, foe, 0, 0, 0).score(7, 1).at(foe, foeColumn, 4).at(5 * team, 7, 4).robot(foe, 10, 1);
        }
    }

    /** The tackle of tick 2 makes the foe the holder from tick 2 on: in tick 3 it can't be tackled, in tick 4 it can. */
    private static void tackledTacklesBack() {
        Play p = facing(0, "when tick=3{move 1 0;}", 2).tick(2, -1).ball(8, 4, 5);
        p.tick(1, -1).ball(8, 4, 5).score(7, 1).at(0, 7, 4);
        p = facing(0, "when tick=4{move 1 0;}", 2).tick(3, -1).ball(8, 4, 5);
        p.tick(1, -1).ball(7, 4, 0).score(7, 2).at(0, 7, 4).at(5, 8, 4);
    }

    /** The foe catches a ball that rolls in tick 1. */
    private static void caughtIsHeldFromThen() {
        Play p = facing(0, "when tick=1{kick 1 0 1;}when tick=2{move 1 0;}", 9).tick(1, -1).ball(8, 4, 5);
        p.tick(1, -1).ball(8, 4, 5).score(7, 0);
        p = facing(0, "when tick=1{kick 1 0 1;}when tick=3{move 1 0;}", 9).tick(2, -1).ball(8, 4, 5);
        p.tick(1, -1).ball(7, 4, 0).score(7, 1);
    }

    /** The foe has it by law KEEPS from tick 12 on. */
    private static void keptIsHeldFromThen() {
        Play p = facing(0, "when tick=13{move 1 0;}", 99).tick(11, -1).tick(1, 2).ball(8, 4, 5);
        p.tick(1, -1).ball(8, 4, 5).score(7, 0);
        p = facing(0, "when tick=14{move 1 0;}", 99).tick(11, -1).tick(1, 2).ball(8, 4, 5);
        p.tick(1, -1).ball(8, 4, 5).tick(1, -1).ball(7, 4, 0).score(7, 1);
    }

    /** "if that is a foe that HOLDS the ball": no mate, no foe beside the holder, and none that holds it itself. */
    private static void noTackle() {
        Play p = new Play("a mate holds it");
        p.aside(0, 0).start(0, 1, 6, 5).give(0, 0, "state s{when tick=0{move 1 0;}}");
        p.give(0, 1, "state s{when 1=1{move 1 0-1;}}").begin(0, 1).tick(9, -1).ball(7, 4, 0).at(1, 6, 5).score(7, 0);
        p = facing(0, "when tick>2{move 1 0;}", 99).tick(8, -1).ball(7, 4, 0).at(0, 7, 4).score(7, 0);
        p = new Play("a foe beside the holder");
        p.aside(0, 0).start(0, 1, 6, 5).start(1, 0, 6, 4).give(0, 0, "state s{when tick=0{move 1 0;}}");
        p.give(0, 1, "state s{when tick=0{move 1 0;}}");
        p.give(1, 0, "state s{when 1=1{move 1 0-1;}}").begin(0, 1).tick(9, -1).ball(7, 4, 0).at(5, 8, 4).at(1, 7, 5).score(7, 0);
    }

    /** The ball comes to the mover's cell, from whichever of the eight cells around the holder it moves. */
    private static void tackleFromEachSide() {
        for (int x = -1; x <= 1; x++) {
            for (int y = -1; y <= 1; y++) {
                if (x != 0 || y != 0) {
                    Play p = new Play("a tackle from " + x + " " + y);
                    p.aside(0, 0).start(1, 0, 6, 4).give(0, 0, "state s{when tick=0{to 7 4;}}");
                    int toX = 7 - x;
                    int toY = 4 - y;
                    p.give(1, 0, "state s{when tick<6 and myx=" + toX + " and myy=" + toY + "{stay;}when tick<3{move 0 " + (y > 0 ? "0-1" : "1")
                        + ";}when tick<6{to " + toX + " " + toY + ";}when tick=6{to 7 4;}}");
                    p.begin(0, 1).tick(6, -1).ball(7, 4, 0).at(5, 7 + x, 4 + y).tick(1, -1);
                    p.ball(7 + x, 4 + y, 5, 0, 0, 0).at(5, 7 + x, 4 + y).at(0, 7, 4).score(7, 1);
                }
            }
        }
    }

    /** In even ticks the holder of HOME is first, in odd ones the foe. */
    private static void tackleAndOrder() {
        Play p = facing(0, "when tick=2{move 0 1;}", 2).tick(2, -1).ball(7, 5, 0).at(5, 7, 4).score(7, 0);
        p = facing(0, "when tick=3{move 0 1;}", 3).tick(3, -1).ball(8, 4, 5).at(0, 7, 5).score(7, 1);
        p = facing(0, "when tick=2{kick 0 1 1;}", 2).tick(2, -1).ball(7, 5, -1, 0, 0, 0).at(5, 8, 4).score(7, 0);
        p = facing(0, "when tick=3{kick 0 1 1;}", 3).tick(3, -1).ball(8, 4, 5, 0, 0, 0).at(0, 7, 4).robot(0, 10, 2).score(7, 1);
        p = new Play("a mate of the tackled one in the same tick");
        p.aside(0, 0).start(1, 0, 6, 4).start(0, 1, 6, 5).give(0, 0, "state s{when tick=0{move 1 0;}}");
        p.give(0, 1, "state s{when tick=0{move 1 0;}when tick=3{move 1 0-1;}}");
        p.give(1, 0, "state s{when tick=3{move 1 0;}}").begin(0, 1).tick(4, -1).ball(8, 4, 5).at(1, 7, 5).score(7, 1);
    }

    /** "kick x y p: if it HOLDS the ball and the way of signs isn't 0 0: ..; else it stays." */
    private static void kicksThatStay(int team) {
        for (int power : new int[] {MIN, 0, 1, 9, MAX}) {
            Play p = Play.carrier("way 0 0", team, 7, 4, "0 0 " + number(power));
            p.tick(1, -1).seenBall(team, 7, 4, 5 * team, 0, 0, 0).robot(5 * team, 10, 2);
        }
        Play p = alone(team, 6, 4, "state s{when 1=1{kick 1 0 9;}}");
        p.tick(1, -1).ball(7, 4, -1, 0, 0, 0).robot(5 * team, 10, 2);
        goes(p, team, 6, 4);
        p = new Play("a mate holds it");
        p.aside(team, 0).start(team, 1, 6, 5).give(team, 0, "state s{when tick=0{move 1 0;}}");
        p.give(team, 1, "state s{when tick>0{kick 1 0 9;}}").begin(0, 1).tick(4, -1).ball(7, 4, 5 * team, 0, 0, 0);
    }

    /** "in ORDER (0 .. 9 in even ticks, 9 .. 0 in odd ones)": of two that want the ball's cell. */
    private static void orderOfNumbers() {
        for (int tick = 0; tick < 6; tick++) {
            Play p = new Play("two teams want the ball in tick " + tick);
            p.aside(0, 0).start(1, 0, 6, 4).give(0, 0, "state s{when tick=" + tick + "{to 7 4;}}");
            p.due("program", p.x.program(1, 0, 0), 1).begin(0, 1).tick(tick + 1, -1).ball(7, 4, tick % 2 == 0 ? 0 : 5);
            p = new Play("two mates want the ball in tick " + tick);
            p.aside(0, 0).start(0, 4, 6, 5).give(0, 0, "state s{when tick=" + tick + "{to 7 4;}}");
            p.due("program", p.x.program(0, 4, 0), 1).begin(0, 1).tick(tick + 1, -1).ball(7, 4, tick % 2 == 0 ? 0 : 4);
        }
    }

    /** A cell is free as soon as the one there has gone: in even ticks for the greater numbers behind it, in odd ones for the lesser. */
    private static void followers() {
        for (int tick = 0; tick < 4; tick++) {
            Play p = new Play("in a row in tick " + tick);
            p.aside(0, 8);
            for (int k = 1; k < 5; k++) {
                p.start(0, k, k, 1);
            }
            p.give(0, 1, "state s{when tick=" + tick + "{move 1 0;}}");
            for (int k = 2; k < 5; k++) {
                p.due("program", p.x.program(0, k, 0), 1);
            }
            p.begin(0, 1).tick(tick + 1, -1).at(4, 5, 1);
            for (int k = 1; k < 4; k++) {
                p.at(k, tick % 2 == 0 ? k : k + 1, 1);
            }
        }
    }

    private static void oneCellForTwo() {
        Play p = new Play("two that change places stay");
        p.aside(0, 8).start(0, 1, 3, 1).start(0, 2, 4, 1);
        p.give(0, 1, "state s{when 1=1{to 4 1;}}").give(0, 2, "state s{when 1=1{to 3 1;}}");
        p.begin(0, 1).tick(1, -1).at(1, 3, 1).at(2, 4, 1).tick(1, -1).at(1, 3, 1).at(2, 4, 1);
    }

    private static void ballGoesWithItsHolder() {
        Play p = alone(0, 6, 4, "state s{when tick<3{move 1 0;}when tick=3{move 0 1;}when tick=4{move 0-1 0-1;}}");
        int[][] cells = {{7, 4}, {8, 4}, {9, 4}, {9, 5}, {8, 4}};
        for (int[] cell : cells) {
            p.tick(1, -1).ball(cell[0], cell[1], 0, 0, 0, 0).at(0, cell[0], cell[1]);
        }
    }
}
