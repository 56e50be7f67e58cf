/** A match in a test: every call is asked together with the answer that is due, under the name of what is tested. */
final class Play {
    final ToyPitch x = new ToyPitch();
    private final String name;

    Play(String name) {
        this.name = name;
    }

    Play due(String call, long got, long want) {
        Due.due(name + ": " + call, got, want);
        return this;
    }

    /** A SUM of this value that may stand behind another SUM. */
    static String sum(int value) {
        if (value == Integer.MIN_VALUE) {
            return "512*512*512*16";
        }
        if (value == Integer.MAX_VALUE) {
            return "512*512*512*16-1";
        }
        return value < 0 ? "0-" + -value : "" + value;
    }

    static int distance(int x, int y, int otherX, int otherY) {
        return Math.max(Math.abs(x - otherX), Math.abs(y - otherY));
    }

    Play give(int team, int k, String text) {
        int number = Due.readText(x, text);
        due("read of " + text, number >= 0 ? 0 : number, 0);
        return due("program", x.program(team, k, number), 1);
    }

    Play start(int team, int k, int column, int row) {
        return due("start", x.start(team, k, column, row), 1);
    }

    Play views(int team, int late, int lost) {
        return due("views", x.views(team, late, lost), 1);
    }

    Play begin(int home, int away) {
        return due("begin", x.begin(home, away), 1);
    }

    Play tick(int n, int law) {
        return due("tick(" + n + ")", x.tick(n), law);
    }

    Play ball(int... due) {
        for (int what = 0; what < due.length; what++) {
            due("ball(" + what + ")", x.ball(what), due[what]);
        }
        return this;
    }

    Play at(int r, int column, int row) {
        return robot(r, 0, column).robot(r, 1, row);
    }

    Play own(int r, int... due) {
        for (int i = 0; i < due.length; i++) {
            robot(r, 4 + i, due[i]);
        }
        return this;
    }

    Play robot(int r, int what, int due) {
        return due("robot(" + r + ", " + what + ")", x.robot(r, what), due);
    }

    Play score(int what, int due) {
        return due("score(" + what + ")", x.score(what), due);
    }

    Play goal(int i, int due) {
        return due("goal(" + i + ")", x.goal(i), due);
    }

    /** Robot 0 of a team is at (6, 4); all others are in one row, or beside it, as the team sees it, and crowd nowhere. */
    Play aside(int team, int row) {
        start(team, 0, 6, 4);
        for (int k = 1; k < 5; k++) {
            start(team, k, 2 + k, row);
            start(1 - team, k - 1, 2 + k, 8 - row);
        }
        return start(1 - team, 4, 6, row == 0 ? 7 : 1);
    }

    /**
     * A match that has gone on until robot 0 of a team has carried the ball to a cell (as it sees it), where it kicks in
     * the next tick, and stays from then on. It got the ball in tick 0; nobody else is within reach.
     */
    static Play carrier(String name, int team, int column, int row, String kick) {
        Play p = new Play(name + " of " + team + " at " + column + " " + row + " by " + kick);
        p.aside(team, row <= 4 ? 8 : 0);
        p.give(team, 0, "state s{when a=1{stay;}when tick=0{to 7 4;}when myx=" + column + " and myy=" + row
            + "{set a 1;kick " + kick + ";}when 1=1{to " + column + " " + row + ";}}");
        p.begin(0, 1).tick(1, -1);
        int way = distance(7, 4, column, row);
        if (way > 0) {
            p.tick(way, -1);
        }
        return p.seenBall(team, column, row, 5 * team, 0, 0, 0);
    }

    /** The ball as a team sees it. */
    Play seenBall(int team, int column, int row, int holder, int power, int wayX, int wayY) {
        if (team == 0) {
            return ball(column, row, holder, power, wayX, wayY);
        }
        return ball(14 - column, 8 - row, holder, power, -wayX, -wayY);
    }
}
