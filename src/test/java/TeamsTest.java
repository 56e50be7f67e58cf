/** Promises 5 to 8: program, start, views, begin; what a match takes at a KICK-OFF, and how robots are PUT. */
public final class TeamsTest {
    private static final int[] WRONG = {-1, 4, Integer.MIN_VALUE, Integer.MAX_VALUE};

    public static void main(String[] args) {
        beyond();
        firstStarts();
        putNear();
        ballPutAside();
        takenAtKickOff();
        late();
        lost();
        Due.end();
    }

    private static void beyond() {
        ToyPitch x = new ToyPitch();
        Due.due("read", Due.readText(x, "state x{}"), 0);
        for (int wrong : WRONG) {
            Due.due("program team", x.program(wrong, 0, 0), Due.BEYOND);
            Due.due("start team", x.start(wrong, 0, 0, 0), Due.BEYOND);
            Due.due("views team", x.views(wrong, 0, 0), Due.BEYOND);
            Due.due("begin home", x.begin(wrong, 0), Due.BEYOND);
            Due.due("begin away", x.begin(0, wrong), Due.BEYOND);
            Due.due("views late", x.views(0, wrong, 0), Due.BEYOND);
        }
        Due.due("no match began", x.count(4), 0);
        for (int wrong : new int[] {-1, 5, Integer.MIN_VALUE, Integer.MAX_VALUE}) {
            Due.due("program robot", x.program(0, wrong, 0), Due.BEYOND);
            Due.due("start robot", x.start(0, wrong, 0, 0), Due.BEYOND);
        }
        Due.due("program 1", x.program(0, 0, 1), Due.BEYOND);
        Due.due("program -2", x.program(0, 0, -2), Due.BEYOND);
        Due.due("program 0", x.program(3, 4, 0), 1);
        Due.due("program none", x.program(3, 4, -1), 1);
        Due.due("start column 7", x.start(0, 0, 7, 0), Due.BEYOND);
        Due.due("start column -1", x.start(0, 0, -1, 0), Due.BEYOND);
        Due.due("start row 9", x.start(0, 0, 0, 9), Due.BEYOND);
        Due.due("start row -1", x.start(0, 0, 0, -1), Due.BEYOND);
        Due.due("start 6 8", x.start(0, 0, 6, 8), 1);
        Due.due("start 0 0", x.start(0, 0, 0, 0), 1);
        Due.due("lost 1", x.views(0, 0, 1), Due.BEYOND);
        Due.due("lost -1", x.views(0, 0, -1), Due.BEYOND);
        Due.due("lost 10", x.views(0, 0, 10), Due.BEYOND);
        Due.due("views 3 9", x.views(0, 3, 9), 1);
        Due.due("views 0 2", x.views(0, 0, 2), 1);
        Due.due("views 0 0", x.views(0, 0, 0), 1);
        Due.due("found", x.found(Due.BEYOND), 24 + 8 + 2 + 4 + 3);
    }

    private static void at(ToyPitch x, int r, int column, int row) {
        Due.due("column of " + r, x.robot(r, 0), column);
        Due.due("row of " + r, x.robot(r, 1), row);
    }

    private static void firstStarts() {
        ToyPitch x = new ToyPitch();
        Due.due("begin", x.begin(2, 3), 1);
        int[][] cells = {{1, 4}, {3, 2}, {3, 6}, {5, 3}, {5, 5}};
        for (int k = 0; k < 5; k++) {
            at(x, k, cells[k][0], cells[k][1]);
            at(x, k + 5, 14 - cells[k][0], 8 - cells[k][1]);
        }
        for (int r = 0; r < 10; r++) {
            Due.due("state without a program", x.robot(r, 2), -1);
            for (int what = 3; what < 8; what++) {
                Due.due("robot at first", x.robot(r, what), 0);
            }
            Due.due("view column", x.robot(r, 8), 7);
            Due.due("view row", x.robot(r, 9), 4);
            Due.due("command", x.robot(r, 10), 0);
        }
        int[] ball = {7, 4, -1, 0, 0, 0};
        for (int what = 0; what < 6; what++) {
            Due.due("ball " + what, x.ball(what), ball[what]);
        }
    }

    /** All five at one START: the nearest free cells, of the least column, then row, as the field is. */
    private static void putNear() {
        ToyPitch x = new ToyPitch();
        for (int k = 0; k < 5; k++) {
            x.start(0, k, 0, 0);
            x.start(1, k, 3, 8);
        }
        x.begin(0, 1);
        int[][] home = {{0, 0}, {0, 1}, {1, 0}, {1, 1}, {0, 2}};
        int[][] away = {{11, 0}, {10, 0}, {10, 1}, {11, 1}, {12, 0}};
        for (int k = 0; k < 5; k++) {
            at(x, k, home[k][0], home[k][1]);
            at(x, k + 5, away[k][0], away[k][1]);
        }
    }

    private static void ballPutAside() {
        ToyPitch x = new ToyPitch();
        for (int k = 0; k < 5; k++) {
            x.start(1, k, 6, 4);
        }
        x.begin(0, 1);
        at(x, 6, 7, 3);
        at(x, 7, 7, 4);
        Due.due("the ball's column", x.ball(0), 6);
        Due.due("the ball's row", x.ball(1), 3);
        Due.due("nobody holds it", x.ball(2), -1);
        Due.due("all view it there", x.robot(4, 8), 6);
        Due.due("SLEEP: put aside again", x.tick(10), 1);
        Due.due("the ball's column", x.ball(0), 6);
        Due.due("the ball's row", x.ball(1), 3);
    }

    /** Robot 3 of HOME takes the ball, kicks it to the foe at (13, 4), and gets it back by law KEEPS: no KICK-OFF yet. */
    private static void takenAtKickOff() {
        ToyPitch x = new ToyPitch();
        Due.give(x, 0, 3, "state s{when held=2{kick 1 0 9;}when held=0{to ballx bally;}}");
        x.start(0, 3, 6, 4);
        x.begin(0, 1);
        Due.due("read", Due.readText(x, "state u{}state v{}"), 1);
        x.program(0, 4, 1);
        x.program(0, 3, -1);
        x.start(0, 0, 6, 8);
        x.start(1, 0, 0, 0);
        x.views(1, 3, 2);
        Due.due("robot 4 has none as yet", x.robot(4, 2), -1);
        Due.due("robot 3 has one as yet", x.robot(3, 2), 0);
        Due.due("tick 0", x.tick(1), -1);
        Due.due("robot 3 holds", x.ball(2), 3);
        Due.due("tick 1", x.tick(1), -1);
        Due.due("the ball rolls", x.ball(0), 10);
        Due.due("power", x.ball(3), 6);
        Due.due("way", x.ball(4), 1);
        Due.due("way", x.ball(5), 0);
        at(x, 0, 1, 4);
        Due.due("ticks 2, 3: goalkeeper 5 at (13, 4) catches", x.tick(1), -1);
        Due.due("holder", x.ball(2), 5);
        Due.due("KEEPS", x.tick(12), 2);
        Due.due("holder", x.ball(2), 3);
        Due.due("robot 3 still has its program: it kicks", x.tick(1), -1);
        Due.due("command", x.robot(3, 10), 2);
        x.begin(0, 1);
        Due.due("robot 4 has one now", x.robot(4, 2), 0);
        Due.due("robot 3 has none now", x.robot(3, 2), -1);
        at(x, 0, 6, 8);
        at(x, 5, 14, 8);
    }

    private static final String CHASE = "state s{when held=2{move 1 0;}when 1=1{to ballx bally;}}";

    private static void views(ToyPitch x, int r, int column, int row) {
        Due.due("view column of " + r, x.robot(r, 8), column);
        Due.due("view row of " + r, x.robot(r, 9), row);
    }

    /** A robot of HOME carries the ball a column a tick, from (7, 4) at the end of tick 0 on. */
    private static void late() {
        for (int late = 0; late < 4; late++) {
            ToyPitch x = new ToyPitch();
            Due.give(x, 0, 0, CHASE);
            x.start(0, 0, 6, 4);
            x.views(1, late, 0);
            x.begin(0, 1);
            for (int tick = 0; tick < 6; tick++) {
                x.tick(1);
                Due.due("the ball", x.ball(0), 7 + tick);
                views(x, 6, 7 + Math.max(0, tick - late - 1), 4);
                views(x, 1, 7 + Math.max(0, tick - 1), 4);
            }
        }
    }

    private static void lost() {
        ToyPitch x = new ToyPitch();
        Due.give(x, 0, 0, CHASE);
        x.start(0, 0, 6, 4);
        x.views(1, 0, 3);
        x.begin(0, 1);
        int[] seen = {7, 7, 7, 7, 7};
        for (int tick = 0; tick < 6; tick++) {
            x.tick(1);
            for (int k = 0; k < 5; k++) {
                if ((tick + k) % 3 != 0) {
                    seen[k] = 7 + Math.max(0, tick - 1);
                }
                views(x, 5 + k, seen[k], 4);
            }
        }
    }
}
