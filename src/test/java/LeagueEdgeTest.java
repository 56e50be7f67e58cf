import java.util.Random;

/** Promises 17 to 19: which sets and ticks a league takes, who is at home, points and goals, and the whole order. */
public final class LeagueEdgeTest {
    private static final int MIN = Integer.MIN_VALUE;
    private static final int MAX = Integer.MAX_VALUE;

    public static void main(String[] args) {
        sets();
        ticks();
        goalsAtTheEnd();
        lesserAtHome();
        aheadOfAnyLeague();
        tableRange();
        tableOfTheLatest();
        orderRange();
        refusedLeagueLeavesTheTable();
        teamsAsTheyAre();
        handMadeOrders();
        Random random = new Random(18);
        for (int i = 0; i < 120; i++) {
            anyResults(random, 15);
            anyResults(random, new int[] {7, 11, 13, 14, 3, 5, 6, 9, 10, 12}[i % 10]);
        }
        Due.end();
    }

    /** "BEYOND: it has less than two teams, or others"; "how many matches" */
    private static void sets() {
        ToyPitch x = new ToyPitch();
        int[] matches = {0, 0, 0, 1, 0, 1, 1, 3, 0, 1, 1, 3, 1, 3, 3, 6};
        int wrong = 0;
        for (int set = -2; set <= 40; set++) {
            boolean isSet = set >= 0 && set < 16 && matches[set] > 0;
            wrong += isSet ? 0 : 1;
            Due.due("league of " + set, x.league(set, 1), isSet ? matches[set] : Due.BEYOND);
        }
        for (int set : new int[] {MIN, MIN + 3, MIN + 15, -16, -13, 48, 64, 67, 256 + 3, 1 << 30, MAX - 12, MAX}) {
            wrong++;
            Due.due("league of " + set, x.league(set, 1), Due.BEYOND);
        }
        Due.due("found BEYOND", x.found(Due.BEYOND), wrong);
    }

    /** "or n isn't 1 .. 60" */
    private static void ticks() {
        ToyPitch x = new ToyPitch();
        for (int n : new int[] {MIN, -60, -1, 0, 1, 2, 50, 51, 59, 60, 61, 62, 120, 256 + 1, MAX}) {
            Due.due("league of " + n + " ticks", x.league(3, n), n >= 1 && n <= 60 ? 1 : Due.BEYOND);
        }
        Due.due("a set and n that both aren't", x.league(1, 0), Due.BEYOND);
        Due.due("no match", x.count(4), 0);
    }

    /**
     * Results by a team's program alone: against each greater team it shoots so many goals and then so many into its own, one
     * in each four ticks; a team knows another one by the column of its robot 1.
     */
    private static void plays(Play p, int team, int[][] results) {
        StringBuilder b = new StringBuilder("state s{");
        for (int other = 0; other < 4; other++) {
            String known = "when foex 1=" + (14 - other);
            if (other < team) {
                b.append(known).append("{stay;}");
            } else if (other > team) {
                int shot = results[team][other];
                int all = shot + results[other][team];
                b.append(known).append(" and tick>").append(Play.sum(4 * all - 1)).append("{stay;}");
                b.append(known).append(" and held=2 and tick>").append(Play.sum(4 * shot - 1)).append("{kick 0-1 0 9;}");
            }
        }
        p.give(team, 0, b.append("when held=2{kick 1 0 9;}when 1=1{to 7 4;}}").toString());
        p.start(team, 0, 6, 3).start(team, 1, team, 8);
        for (int k = 2; k < 5; k++) {
            p.start(team, k, 2 + k, 8);
        }
    }

    private static Play four(String name, int[][] results) {
        Play p = new Play(name);
        for (int team = 0; team < 4; team++) {
            plays(p, team, results);
        }
        return p;
    }

    private static void table(Play p, int team, int points, int shot, int against) {
        p.due("points of " + team, p.x.table(team, 0), points);
        p.due("goals of " + team, p.x.table(team, 1), shot);
        p.due("goals against " + team, p.x.table(team, 2), against);
    }

    /** The goal of tick 3 is one of four ticks, not of three; in 60 ticks 15 fall. */
    private static void goalsAtTheEnd() {
        Play p = four("n TICKS each", new int[][] {{0, 15, 0, 0}, {0, 0, 0, 0}, {0, 0, 0, 0}, {0, 0, 0, 0}});
        int[] ticks = {3, 4, 7, 8, 59, 60};
        int[] goals = {0, 1, 1, 2, 14, 15};
        for (int i = 0; i < ticks.length; i++) {
            p.due("league", p.x.league(3, ticks[i]), 1);
            table(p, 0, goals[i] > 0 ? 3 : 1, goals[i], 0);
            table(p, 1, goals[i] > 0 ? 0 : 1, 0, goals[i]);
        }
    }

    /** "the lesser one at home": of two that want the ball in tick 0, HOME's robot is first, and shoots. */
    private static void lesserAtHome() {
        for (int home = 0; home < 4; home++) {
            for (int away = home + 1; away < 4; away++) {
                Play p = new Play(home + " at home to " + away);
                p.give(home, 0, "state s{when held=2{kick 1 0 9;}when 1=1{to 7 4;}}");
                p.due("program", p.x.program(away, 0, 0), 1).start(home, 0, 6, 3).start(away, 0, 6, 3);
                p.due("league", p.x.league(1 << home | 1 << away, 4), 1);
                table(p, home, 3, 1, 0);
                table(p, away, 0, 0, 1);
                p.due("first", p.x.order(0), home).due("second", p.x.order(1), away);
            }
        }
    }

    private static void aheadOfAnyLeague() {
        ToyPitch x = new ToyPitch();
        for (int team = 0; team < 4; team++) {
            Due.due("table(" + team + ", 0)", x.table(team, 0), Due.NONE);
            Due.due("order(" + team + ")", x.order(team), Due.NONE);
        }
        Due.due("order(-1)", x.order(-1), Due.BEYOND);
        Due.due("table(4, 0)", x.table(4, 0), Due.BEYOND);
        Due.due("table(0, 3)", x.table(0, 3), Due.BEYOND);
    }

    /** "BEYOND: there is no such team, or another what. NONE: it wasn't in the latest league." */
    private static void tableRange() {
        int[] values = {MIN, -2, -1, 0, 1, 2, 3, 4, 5, MAX};
        ToyPitch x = new ToyPitch();
        x.league(5, 1);
        for (int team : values) {
            for (int what : values) {
                boolean isGood = team >= 0 && team <= 3 && what >= 0 && what <= 2;
                int due = team % 2 == 1 ? Due.NONE : what == 0 ? 1 : 0;
                Due.due("table(" + team + ", " + what + ")", x.table(team, what), isGood ? due : Due.BEYOND);
            }
        }
    }

    /** "the table is that of these": no points or goals stay from an earlier league. */
    private static void tableOfTheLatest() {
        Play p = four("the latest league", new int[][] {{0, 1, 1, 1}, {0, 0, 0, 0}, {0, 0, 0, 0}, {0, 0, 0, 0}});
        p.due("league", p.x.league(15, 8), 6);
        table(p, 0, 9, 3, 0);
        for (int set = 3; set < 16; set++) {
            int size = Integer.bitCount(set);
            if (size >= 2) {
                p.due("league", p.x.league(set, 4), size * (size - 1) / 2);
                boolean hasNought = (set & 1) == 1;
                for (int team = 0; team < 4; team++) {
                    boolean isIn = (set >> team & 1) == 1;
                    int points = team == 0 ? 3 * (size - 1) : hasNought ? size - 2 : size - 1;
                    p.due("points of " + team + " in " + set, p.x.table(team, 0), isIn ? points : Due.NONE);
                    int against = hasNought && team > 0 ? 1 : 0;
                    p.due("against " + team + " in " + set, p.x.table(team, 2), isIn ? against : Due.NONE);
                }
            }
        }
    }

    /** "BEYOND: i is below 0. NONE: there is none such." */
    private static void orderRange() {
        ToyPitch x = new ToyPitch();
        for (int set : new int[] {3, 9, 12, 7, 14, 15}) {
            x.league(set, 1);
            int[] teams = new int[4];
            int many = 0;
            for (int team = 0; team < 4; team++) {
                if ((set >> team & 1) == 1) {
                    teams[many++] = team;
                }
            }
            for (int i = 0; i < 6; i++) {
                Due.due("order(" + i + ") of " + set, x.order(i), i < many ? teams[i] : Due.NONE);
            }
            Due.due("order(MAX)", x.order(MAX), Due.NONE);
            Due.due("order(-1)", x.order(-1), Due.BEYOND);
            Due.due("order(MIN)", x.order(MIN), Due.BEYOND);
        }
    }

    private static void refusedLeagueLeavesTheTable() {
        Play p = four("refused", new int[][] {{0, 0, 0, 0}, {0, 0, 2, 0}, {0, 1, 0, 0}, {0, 0, 0, 0}});
        p.due("league", p.x.league(6, 60), 1);
        int[][] wrong = {{6, 0}, {6, 61}, {4, 10}, {0, 10}, {16, 10}, {22, 10}, {-1, 10}};
        for (int[] a : wrong) {
            p.due("league", p.x.league(a[0], a[1]), Due.BEYOND);
            table(p, 1, 3, 2, 1);
            table(p, 2, 0, 1, 2);
            p.due("table(0, 0)", p.x.table(0, 0), Due.NONE).due("order(0)", p.x.order(0), 1).due("order(1)", p.x.order(1), 2);
        }
    }

    /** A league's matches begin with the teams as they are; the match that goes on has them as they were. */
    private static void teamsAsTheyAre() {
        Play p = four("as they are", new int[][] {{0, 1, 0, 0}, {0, 0, 0, 0}, {0, 0, 0, 0}, {0, 0, 0, 0}});
        p.begin(0, 1).tick(1, -1).due("none", p.x.program(0, 0, -1), 1);
        p.due("league", p.x.league(3, 8), 1);
        table(p, 0, 1, 0, 0);
        p.score(0, 1).robot(0, 2, 0).ball(7, 4, 0).tick(3, 0).goal(0, 3).robot(0, 2, -1);
        p.due("program", p.x.program(0, 0, 0), 1).due("league", p.x.league(3, 8), 1);
        table(p, 0, 3, 1, 0);
        p.robot(0, 2, -1).score(1, 1);
    }

    private static void order(Play p, int... due) {
        for (int i = 0; i < due.length; i++) {
            p.due("order(" + i + ")", p.x.order(i), due[i]);
        }
    }

    /** "more points first, then more goals shot less those against, then more shot, then the lesser number" */
    private static void handMadeOrders() {
        Play p = four("points ahead of goals", new int[][] {{0, 0, 0, 0}, {0, 0, 4, 0}, {0, 0, 0, 0}, {0, 1, 0, 0}});
        p.due("league", p.x.league(14, 24), 3);
        table(p, 3, 4, 1, 0);
        table(p, 1, 3, 4, 1);
        order(p, 3, 1, 2, Due.NONE);
        p = four("difference ahead of shot", new int[][] {{0, 0, 3, 0}, {0, 0, 0, 1}, {2, 0, 0, 0}, {0, 0, 0, 0}});
        p.due("league", p.x.league(5, 24), 1);
        table(p, 0, 3, 3, 2);
        p.due("league", p.x.league(15, 24), 6);
        table(p, 0, 5, 3, 2);
        table(p, 1, 5, 1, 0);
        order(p, 0, 1, 2, 3);
        p = four("difference ahead of shot", new int[][] {{0, 0, 3, 0}, {0, 0, 0, 2}, {2, 0, 0, 0}, {0, 0, 0, 0}});
        p.due("league", p.x.league(15, 24), 6);
        table(p, 0, 5, 3, 2);
        table(p, 1, 5, 2, 0);
        order(p, 1, 0, 2, 3);
        p = four("shot ahead of the number", new int[][] {{0, 0, 1, 0}, {0, 0, 0, 2}, {0, 0, 0, 0}, {0, 1, 0, 0}});
        p.due("league", p.x.league(15, 24), 6);
        table(p, 0, 5, 1, 0);
        table(p, 1, 5, 2, 1);
        order(p, 1, 0, 3, 2);
        p = four("the lesser number", new int[][] {{0, 0, 1, 0}, {0, 0, 0, 1}, {0, 0, 0, 0}, {0, 0, 0, 0}});
        p.due("league", p.x.league(15, 24), 6);
        order(p, 0, 1, 2, 3);
    }

    private static boolean isAhead(int[] a, int[] b) {
        for (int i = 0; i < a.length; i++) {
            if (a[i] != b[i]) {
                return a[i] > b[i];
            }
        }
        return false;
    }

    private static void anyResults(Random random, int set) {
        int[][] results = new int[4][4];
        for (int[] row : results) {
            for (int i = 0; i < 4; i++) {
                row[i] = Math.max(0, random.nextInt(4) - 1);
            }
        }
        Play p = four("set " + set + " of " + java.util.Arrays.deepToString(results), results);
        int size = Integer.bitCount(set);
        p.due("league", p.x.league(set, 20), size * (size - 1) / 2);
        int[][] keys = new int[4][];
        for (int team = 0; team < 4; team++) {
            int[] sums = new int[3];
            for (int other = 0; other < 4 && (set >> team & 1) == 1; other++) {
                if (other != team && (set >> other & 1) == 1) {
                    int shot = results[team][other];
                    int against = results[other][team];
                    sums[0] += shot > against ? 3 : shot == against ? 1 : 0;
                    sums[1] += shot;
                    sums[2] += against;
                }
            }
            if ((set >> team & 1) == 1) {
                table(p, team, sums[0], sums[1], sums[2]);
                keys[team] = new int[] {sums[0], sums[1] - sums[2], sums[1], -team};
            }
        }
        for (int team = 0; team < 4; team++) {
            int ahead = 0;
            for (int other = 0; other < 4 && keys[team] != null; other++) {
                ahead += keys[other] != null && isAhead(keys[other], keys[team]) ? 1 : 0;
            }
            if (keys[team] != null) {
                p.due("order(" + ahead + ")", p.x.order(ahead), team);
            }
        }
        p.due("order(" + size + ")", p.x.order(size), Due.NONE);
    }
}
