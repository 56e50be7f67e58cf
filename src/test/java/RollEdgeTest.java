/** Of promise 9 and 10: each sentence of THE BALL ROLLS, at columns, rows and corners, for both teams. */
public final class RollEdgeTest {
    public static void main(String[] args) {
        for (int team = 0; team < 2; team++) {
            columns(team);
            rows(team);
            inside(team);
            threeTimesInATick(team);
            powerIsCut(team);
        }
        secondAndThirdTurn();
        goalEndsRolling();
        caughtInTheNextCell();
        caughtByKicker();
        caughtByFoe();
        notCaughtWhereItStays();
        powerNoughtLiesStill();
        wayAndPowerWhenHeld();
        Due.end();
    }

    private static String kick(int wayX, int wayY, int power) {
        return Play.sum(wayX) + " " + Play.sum(wayY) + " " + Play.sum(power);
    }

    /** "beyond a column: GOAL, if its row then (the next one) is a GOAL's; else that sign turns, and it stays for this time" */
    private static void columns(int team) {
        for (int row = 0; row < 9; row++) {
            for (int wayY = -1; wayY <= 1; wayY++) {
                boolean isGoal = row + wayY >= 3 && row + wayY <= 5;
                for (int wayX = -1; wayX <= 1; wayX += 2) {
                    if (isGoal) {
                        goalAt(team, wayX, row, wayY);
                    } else {
                        turnAt(team, wayX, row, wayY);
                    }
                }
            }
        }
    }

    private static void goalAt(int team, int wayX, int row, int wayY) {
        int column = wayX > 0 ? 14 : 0;
        Play p = Play.carrier("goal", team, column, row, kick(wayX, wayY, 1));
        boolean isAway = team == 1 == wayX > 0;
        p.tick(1, 0).goal(0, isAway ? 1008 : 8).goal(1, Due.NONE);
        p.score(1, isAway ? 0 : 1).score(2, isAway ? 1 : 0).score(3, 1);
        p.ball(7, 4, -1, 0, 0, 0);
    }

    private static void turnAt(int team, int wayX, int row, int wayY) {
        int column = wayX > 0 ? 14 : 0;
        boolean isCorner = row + wayY < 0 || row + wayY > 8;
        int behind = isCorner ? -wayY : wayY;
        Play p = Play.carrier("it stays", team, column, row, kick(wayX, wayY, 1));
        p.tick(1, -1).seenBall(team, column, row, -1, 0, 0, 0).score(3, 0);
        p = Play.carrier("its sign turned", team, column, row, kick(wayX, wayY, 2));
        p.tick(1, -1).seenBall(team, column - wayX, row + behind, -1, 0, 0, 0);
        if (row + 2 * behind >= 0 && row + 2 * behind <= 8) {
            p = Play.carrier("it rolls on", team, column, row, kick(wayX, wayY, 4));
            p.tick(1, -1).seenBall(team, column - 2 * wayX, row + 2 * behind, -1, 1, -wayX, behind);
        }
    }

    /** "if beyond a row: likewise that sign turns" */
    private static void rows(int team) {
        for (int column = 1; column < 14; column++) {
            for (int wayX = -1; wayX <= 1; wayX++) {
                for (int row = 0; row <= 8; row += 8) {
                    int wayY = row == 0 ? -1 : 1;
                    Play p = Play.carrier("it stays", team, column, row, kick(wayX, wayY, 1));
                    p.tick(1, -1).seenBall(team, column, row, -1, 0, 0, 0);
                    p = Play.carrier("its sign turned", team, column, row, kick(wayX, wayY, 2));
                    p.tick(1, -1).seenBall(team, column + wayX, row - wayY, -1, 0, 0, 0);
                    if (column > 1 && column < 13) {
                        p = Play.carrier("it rolls on", team, column, row, kick(wayX, wayY, 4));
                        p.tick(1, -1).seenBall(team, column + 2 * wayX, row - 2 * wayY, -1, 1, wayX, -wayY);
                    }
                }
            }
        }
    }

    /** The last cells that are on the field are no edge yet. */
    private static void inside(int team) {
        for (int wayX = -1; wayX <= 1; wayX++) {
            for (int wayY = -1; wayY <= 1; wayY++) {
                if (wayX != 0 || wayY != 0) {
                    Play p = Play.carrier("to the edge", team, 7 + 6 * wayX, 4 + 3 * wayY, kick(wayX, wayY, 1));
                    p.tick(1, -1).seenBall(team, 7 + 7 * wayX, 4 + 4 * wayY, -1, 0, 0, 0);
                }
            }
        }
    }

    /** "up to 3 times in a tick, while it has power: the power is one less" */
    private static void threeTimesInATick(int team) {
        for (int power = 1; power <= 9; power++) {
            Play p = Play.carrier("rolls", team, 1, 4, kick(1, 0, power));
            for (int tick = 1; tick <= 4; tick++) {
                int gone = Math.min(power, 3 * tick);
                p.tick(1, -1).seenBall(team, 1 + gone, 4, -1, power - gone, gone < power ? 1 : 0, 0);
            }
        }
    }

    /** "the power p, cut to 1 .. 9" */
    private static void powerIsCut(int team) {
        int[] powers = {Integer.MIN_VALUE, -999, -1, 0, 1, 2, 8, 9, 10, 999, Integer.MAX_VALUE};
        int[] columns = {2, 2, 2, 2, 2, 3, 4, 4, 4, 4, 4};
        int[] left = {0, 0, 0, 0, 0, 0, 5, 6, 6, 6, 6};
        for (int i = 0; i < powers.length; i++) {
            Play p = Play.carrier("power", team, 1, 4, kick(1, 0, powers[i]));
            p.tick(1, -1).seenBall(team, columns[i], 4, -1, left[i], left[i] > 0 ? 1 : 0, 0);
        }
    }

    /** The edge is met by the second and by the third time of a tick, too. */
    private static void secondAndThirdTurn() {
        Play.carrier("second", 0, 13, 1, kick(1, 0, 2)).tick(1, -1).ball(14, 1, -1, 0, 0, 0);
        Play.carrier("second, and back", 0, 13, 1, kick(1, 0, 3)).tick(1, -1).ball(13, 1, 0, 0, 0, 0);
        Play.carrier("third", 0, 12, 1, kick(1, 0, 3)).tick(1, -1).ball(14, 1, -1, 0, 0, 0);
        Play.carrier("third", 0, 12, 1, kick(1, 0, 4)).tick(1, -1).ball(14, 1, -1, 1, -1, 0);
        Play.carrier("corner by the second", 0, 13, 1, kick(1, -1, 2)).tick(1, -1).ball(14, 0, -1, 0, 0, 0);
        Play.carrier("corner, and back", 0, 13, 1, kick(1, -1, 3)).tick(1, -1).ball(13, 1, 0, 0, 0, 0);
        Play.carrier("corner by the third", 0, 12, 2, kick(1, -1, 4)).tick(1, -1).ball(14, 0, -1, 1, -1, 1);
        Play.carrier("goal by the second", 0, 13, 4, kick(1, 0, 2)).tick(1, 0).goal(0, 7);
        Play.carrier("no power for it", 0, 13, 4, kick(1, 0, 1)).tick(1, -1).ball(14, 4, -1, 0).tick(1, -1);
        Play.carrier("goal by the third", 0, 12, 4, kick(1, 0, 3)).tick(1, 0).goal(0, 6);
        Play.carrier("goal in the next tick", 0, 11, 4, kick(1, 0, 4)).tick(1, -1).ball(14, 4, -1, 1, 1, 0)
            .tick(1, 0).goal(0, 6);
    }

    /** "With GOAL all rolling ends." */
    private static void goalEndsRolling() {
        Play p = Play.carrier("goal at once", 0, 14, 4, kick(1, 0, 9));
        p.tick(1, 0).ball(7, 4, -1, 0, 0, 0).score(1, 1);
        p = Play.carrier("goal at once", 0, 0, 4, kick(-1, 0, 9));
        p.tick(1, 0).ball(7, 4, -1, 0, 0, 0).score(1, 0).score(2, 1).score(3, 1);
    }

    /** HOME's 1 stands so many cells left of the ball when 0 kicks in tick 1. */
    private static Play mateInTheWay(int cells, int power) {
        Play p = new Play("a mate " + cells + " cells off, power " + power);
        p.aside(0, 0).start(0, 0, 6, 3).start(0, 1, 7 - cells, 4);
        p.give(0, 0, "state s{when tick=0{to 7 4;}when tick=1{kick 0-1 0 " + power + ";}}");
        return p.begin(0, 1).tick(1, -1).ball(7, 4, 0, 0, 0, 0).tick(1, -1);
    }

    /** "If a robot is in the next cell, that HOLDS it; else it lies there." */
    private static void caughtInTheNextCell() {
        mateInTheWay(1, 1).ball(6, 4, 1, 0, 0, 0);
        mateInTheWay(1, 9).ball(6, 4, 1, 0, 0, 0);
        mateInTheWay(2, 1).ball(6, 4, -1, 0, 0, 0).tick(1, -1).ball(6, 4, -1, 0, 0, 0);
        mateInTheWay(2, 2).ball(5, 4, 1, 0, 0, 0);
        mateInTheWay(3, 2).ball(5, 4, -1, 0, 0, 0);
        mateInTheWay(3, 9).ball(4, 4, 1, 0, 0, 0);
        mateInTheWay(4, 9).ball(4, 4, -1, 6, -1, 0).tick(1, -1).ball(3, 4, 1, 0, 0, 0).at(1, 3, 4);
    }

    /** From (7, 7) down: it turns at once in row 8, and comes back to the robot that kicked it. */
    private static void caughtByKicker() {
        Play.carrier("back to the kicker", 0, 7, 7, kick(0, 1, 2)).tick(1, -1).ball(7, 8, -1, 0, 0, 0);
        Play.carrier("back to the kicker", 0, 7, 7, kick(0, 1, 3)).tick(1, -1).ball(7, 7, 0, 0, 0, 0);
        Play.carrier("back to the kicker", 0, 7, 7, kick(0, 1, 9)).tick(1, -1).ball(7, 7, 0, 0, 0, 0);
    }

    private static void caughtByFoe() {
        Play p = new Play("a foe in the way");
        p.aside(0, 0).start(1, 0, 5, 4);
        p.give(0, 0, "state s{when tick=0{to 7 4;}when tick=1{kick 1 0 9;}}");
        p.begin(0, 1).tick(1, -1).at(5, 9, 4).tick(1, -1).ball(9, 4, 5, 0, 0, 0);
    }

    /** A robot in the cell in which a ball stays, or is kicked from, doesn't get it: it isn't in the next cell. */
    private static void notCaughtWhereItStays() {
        Play p = Play.carrier("under the kicker", 0, 7, 8, kick(0, 1, 1));
        p.tick(1, -1).ball(7, 8, -1, 0, 0, 0).at(0, 7, 8);
        p.tick(1, -1).ball(7, 8, -1, 0, 0, 0);
    }

    /** "A ball of power 0 lies still." */
    private static void powerNoughtLiesStill() {
        Play p = Play.carrier("lies still", 0, 1, 4, kick(1, 0, 3));
        p.tick(1, -1).ball(4, 4, -1, 0, 0, 0).tick(1, -1).ball(4, 4, -1, 0, 0, 0).tick(7, -1).ball(4, 4, -1, 0, 0, 0);
    }

    /** Promise 10: power and way "0 if it is held", "or has no power". */
    private static void wayAndPowerWhenHeld() {
        Play p = new Play("held while it rolls");
        p.aside(0, 0).start(1, 0, 4, 3);
        p.give(0, 0, "state s{when tick=0{to 7 4;}when tick=1{kick 1 0 9;}}");
        p.give(1, 0, "state s{when tick=2{move 0 1;}}");
        p.begin(0, 1).tick(2, -1).ball(10, 4, -1, 6, 1, 0).at(5, 10, 5);
        p.tick(1, -1).ball(10, 4, 5, 0, 0, 0).at(5, 10, 4);
        p.tick(1, -1).ball(10, 4, 5, 0, 0, 0);
    }
}
