/** Of promise 7, 9 and 11: VIEWS that come late or are lost, and each of the SENSORS, for both teams. */
public final class ViewEdgeTest {
    /** A goal in each fourth tick, whatever its team sees. */
    private static final String SHOOT = "state s{when held=2{kick 1 0 9;}when 1=1{to 7 4;}}";
    private static final String CARRY = "state s{when tick=0{move 1 0;}when myx<14{move 1 0;}}";
    private static final String CARRY_ABOUT = "state s{when tick=0{move 1 0;}when tick<4{move 0 1;}when tick<6{move 1 0-1;}"
        + "when tick<8{move 0-1 1;}when 1=1{move 1 0;}}";

    public static void main(String[] args) {
        for (int late = 0; late <= 3; late++) {
            for (int lost = 0; lost <= 9; lost++) {
                if (lost != 1) {
                    follow(CARRY, late, lost, 0);
                    follow(CARRY_ABOUT, late, lost, 0);
                    for (int wait = 0; wait < 4; wait++) {
                        String text = SHOOT.replace("{when held=2", "{when tick<" + wait + "{stay;}when held=2");
                        follow(text, late, lost, (13 - wait) / 4);
                    }
                }
            }
        }
        lateByHand();
        lateBehindAGoal();
        lostByHand();
        lostAndLate();
        ballOfTheView();
        nearIsOfTheView();
        held();
        leadOfBoth();
        tickGoesOn();
        whereOthersAre();
        sensesAheadOfCommands();
        withoutAProgram();
        Due.end();
    }

    /** The views of all ten, tick by tick, by where the ball was ahead of each tick since the latest KICK-OFF. */
    private static void follow(String text, int late, int lost, int goals) {
        int ticks = 13;
        Play p = new Play("late " + late + ", lost " + lost);
        p.aside(0, 0).give(0, 0, text).views(0, late, lost).views(1, 3 - late, lost).begin(0, 1);
        int[][] was = new int[ticks + 1][];
        int[][] view = new int[10][];
        int kickOff = 0;
        java.util.Arrays.fill(view, new int[] {7, 4});
        for (int tick = 0; tick < ticks; tick++) {
            was[tick] = new int[] {p.x.ball(0), p.x.ball(1)};
            int law = p.x.tick(1);
            for (int r = 0; r < 10; r++) {
                boolean isLost = lost > 0 && (tick + r % 5) % lost == 0;
                if (!isLost) {
                    view[r] = was[Math.max(kickOff, tick - (r < 5 ? late : 3 - late))];
                }
                if (law == 0) {
                    view[r] = new int[] {7, 4};
                }
                p.robot(r, 8, view[r][0]).robot(r, 9, view[r][1]);
            }
            kickOff = law == 0 ? tick + 1 : kickOff;
        }
        p.score(1, goals);
    }

    /** HOME's 0 carries the ball: it is at (7, 4) ahead of ticks 0 and 1, then a column further ahead of each. */
    private static void lateByHand() {
        int[][] due = {{7, 7, 8, 9, 10, 11}, {7, 7, 7, 8, 9, 10}, {7, 7, 7, 7, 8, 9}, {7, 7, 7, 7, 7, 8}};
        for (int late = 0; late <= 3; late++) {
            Play p = new Play("late " + late);
            p.aside(0, 0).give(0, 0, CARRY).views(1, late, 0).begin(0, 1);
            for (int tick = 0; tick < 6; tick++) {
                p.tick(1, -1).robot(7, 8, due[late][tick]).robot(7, 9, 4).robot(1, 8, due[0][tick]);
            }
        }
    }

    /** "(of the latest KICK-OFF, if that was later)": the goal of tick 3 is nobody's view any more. */
    private static void lateBehindAGoal() {
        for (int late = 0; late <= 3; late++) {
            Play p = new Play("late " + late + " behind a goal");
            p.aside(0, 0).give(0, 0, SHOOT).views(1, late, 0).begin(0, 1);
            p.tick(3, -1).robot(7, 8, late == 0 ? 10 : 7).tick(1, 0);
            p.robot(7, 8, 7).robot(7, 9, 4);
            int[] ahead = {7, 7, 10, 13};
            for (int tick = 4; tick < 7; tick++) {
                p.tick(1, -1).robot(7, 8, ahead[Math.max(0, tick - 4 - late)]).robot(7, 9, 4);
            }
        }
    }

    /** "if .. the sum of the tick's number and the robot's number in its team (0 .. 4) leaves nothing by LOST" */
    private static void lostByHand() {
        int[][] byTwo = {{7, 7, 7, 9, 9, 11, 11}, {7, 7, 8, 8, 10, 10, 12}};
        int[][] byNine = {{7, 7, 8, 9, 10, 11, 12}, {7, 7, 8, 9, 10, 10, 12}};
        Play p = new Play("lost 2");
        p.aside(0, 0).give(0, 0, CARRY).views(1, 0, 2).views(0, 0, 2).begin(0, 1);
        for (int tick = 0; tick < 7; tick++) {
            p.tick(1, -1);
            for (int r = 0; r < 10; r++) {
                p.robot(r, 8, byTwo[r % 5 % 2][tick]);
            }
        }
        p = new Play("lost 9");
        p.aside(0, 0).give(0, 0, CARRY).views(1, 0, 9).begin(0, 1);
        for (int tick = 0; tick < 7; tick++) {
            p.tick(1, -1).robot(5, 8, byNine[0][tick]).robot(9, 8, byNine[1][tick]).robot(4, 8, byNine[0][tick]);
        }
    }

    /** A lost view is the one that it had, not the one that it would have had a tick ago. */
    private static void lostAndLate() {
        Play p = new Play("late 2, lost 3");
        p.aside(0, 0).give(0, 0, CARRY).views(1, 2, 3).begin(0, 1);
        int[] due = {7, 7, 7, 7, 8, 9, 9};
        for (int tick = 0; tick < 7; tick++) {
            p.tick(1, -1).robot(5, 8, due[tick]);
        }
    }

    /** ballx, bally: "the VIEW", as the team sees it. */
    private static void ballOfTheView() {
        for (int team = 0; team < 2; team++) {
            Play p = new Play("ballx, bally of " + team);
            p.aside(team, 0).views(team, 2, 0);
            p.give(team, 0, "state s{when tick=0{move 1 0;}when 1=1{move 1 1;}}");
            p.give(team, 1, "state s{when 1=1{set a ballx;set b bally;set c near;}}");
            p.begin(0, 1).tick(5, -1).seenBall(team, 11, 8, 5 * team, 0, 0, 0);
            p.own(1 + 5 * team, 8, 5, 5, 0).robot(1 + 5 * team, 8, team == 0 ? 8 : 6).robot(1 + 5 * team, 9, team == 0 ? 5 : 3);
        }
    }

    /** near: "the DISTANCE of its cell and the VIEW" - the greater of the columns and rows between. */
    private static void nearIsOfTheView() {
        int[][] cells = {{6, 4}, {6, 3}, {6, 5}, {6, 0}, {6, 8}, {3, 0}, {3, 8}, {2, 0}, {0, 0}, {0, 4}, {0, 8}, {4, 1}, {4, 0}};
        int[] due = {1, 1, 1, 4, 4, 4, 4, 5, 7, 7, 7, 3, 4};
        for (int team = 0; team < 2; team++) {
            for (int i = 0; i < cells.length; i++) {
                Play p = new Play("near of " + team);
                p.start(team, 0, cells[i][0], cells[i][1]).give(team, 0, "state s{when 1=1{set a near;set b myx;set c myy;}}");
                p.begin(0, 1).tick(1, -1).own(5 * team, due[i], cells[i][0], cells[i][1]);
            }
        }
    }

    /** held: "2 if it HOLDS the ball, 1 if a mate does, -1 if a foe does, else 0" */
    private static void held() {
        for (int team = 0; team < 2; team++) {
            Play p = new Play("held by " + team);
            p.aside(team, 0);
            p.give(team, 0, "state s{when 1=1{set a held;}when tick=0{move 1 0;}when tick=2{kick 0 1 1;}}");
            int text = Due.readText(p.x, "state s{when 1=1{set a held;}}");
            for (int k = 0; k < 5; k++) {
                p.due("program", p.x.program(1 - team, k, text), 1);
                p.due("program", k == 0 ? 1 : p.x.program(team, k, text), 1);
            }
            p.begin(0, 1);
            int[][] due = {{0, 0, 0}, {2, 1, -1}, {2, 1, -1}, {0, 0, 0}};
            for (int tick = 0; tick < 4; tick++) {
                p.tick(1, -1).own(5 * team, due[tick][0]);
                for (int k = 0; k < 5; k++) {
                    p.own(k + 5 * (1 - team), due[tick][2]);
                    p.own(k + 5 * team, due[tick][k == 0 ? 0 : 1]);
                }
            }
        }
    }

    /** lead: "its team's goals less the other's" */
    private static void leadOfBoth() {
        for (int team = 0; team < 2; team++) {
            Play p = new Play("lead of " + team);
            p.aside(team, 0).give(team, 0, SHOOT);
            p.give(team, 1, "state s{when 1=1{set a lead;}}").give(1 - team, 1, "state s{when 1=1{set a lead;}}");
            p.begin(0, 1);
            int mate = 1 + 5 * team;
            int foe = 1 + 5 * (1 - team);
            p.tick(3, -1).own(mate, 0).own(foe, 0).tick(1, 0).tick(1, -1).own(mate, 1).own(foe, -1);
            p.tick(3, 0).tick(1, -1).own(mate, 2).own(foe, -2);
        }
    }

    /** tick: numbered from 0 on in a match, through its KICK-OFFS. */
    private static void tickGoesOn() {
        Play p = new Play("tick");
        p.aside(0, 0).give(0, 0, SHOOT).give(1, 1, "state s{when 1=1{set a tick;}}").begin(0, 1);
        p.tick(1, -1).own(6, 0).tick(1, -1).own(6, 1).tick(2, 0).own(6, 0).score(0, 4).tick(1, -1).own(6, 4).score(0, 5);
        p.begin(0, 1).tick(1, -1).own(6, 0).score(0, 1);
        p.tick(50, -1).tick(50, -1).own(6, 100).score(0, 101);
    }

    /** matex k .. foey k: "where robot k of its, of the other team is", as it sees that. */
    private static void whereOthersAre() {
        for (int team = 0; team < 2; team++) {
            for (int k = 0; k < 5; k++) {
                Play p = new Play("robots " + k + " of " + team);
                for (int i = 0; i < 5; i++) {
                    p.start(team, i, 1 + i, 2 + i).start(1 - team, i, i, 1);
                }
                p.give(team, 2, "state s{when 1=1{set a matex " + k + ";set b matey " + k + ";set c foex " + k + ";set d foey "
                    + k + ";}}");
                p.begin(0, 1).tick(1, -1).own(2 + 5 * team, 1 + k, 2 + k, 14 - k, 7);
            }
        }
    }

    /** "(a) each robot .. sees and runs its program .. (b) in the same ORDER the commands are done": nobody sees a move of its tick. */
    private static void sensesAheadOfCommands() {
        for (int tick = 0; tick < 2; tick++) {
            Play p = new Play("in tick " + tick);
            p.aside(0, 0);
            p.give(0, 1, "state s{when tick=" + tick + "{set a matey 2;move 0 1;}}");
            p.give(0, 2, "state s{when tick=" + tick + "{set a matey 1;move 0 1;}}");
            p.begin(0, 1).tick(tick + 1, -1).at(1, 3, 1).at(2, 4, 1).own(1, 0).own(2, 0);
        }
    }

    /** "A robot without a program stays." It sees all the same. */
    private static void withoutAProgram() {
        Play p = new Play("without a program");
        p.aside(0, 0).give(0, 0, CARRY).begin(0, 1).tick(4, -1);
        for (int r = 1; r < 10; r++) {
            p.robot(r, 2, -1).robot(r, 3, 0).robot(r, 10, 0).robot(r, 8, 9).own(r, 0, 0, 0, 0);
        }
    }
}
