/** Promises 17 to 19: league, table, order. */
public final class LeagueTest {
    public static void main(String[] args) {
        findings();
        draws();
        oneTeamShoots();
        orderByGoals();
        orderByDifference();
        orderByShot();
        matchGoesOn();
        Due.end();
    }

    private static void findings() {
        ToyPitch x = new ToyPitch();
        int[] wrongSets = {0, 1, 2, 4, 8, 16, 19, 31, -1, Integer.MIN_VALUE, Integer.MIN_VALUE + 3, Integer.MAX_VALUE};
        for (int set : wrongSets) {
            Due.due("league of " + set, x.league(set, 10), Due.BEYOND);
        }
        for (int n : new int[] {0, -1, 61, Integer.MIN_VALUE, Integer.MAX_VALUE}) {
            Due.due("league of " + n + " ticks", x.league(3, n), Due.BEYOND);
        }
        Due.due("no table", x.table(0, 0), Due.NONE);
        Due.due("no order", x.order(0), Due.NONE);
        Due.due("league", x.league(5, 60), 1);
        for (int wrong : new int[] {-1, 4, Integer.MIN_VALUE, Integer.MAX_VALUE}) {
            Due.due("table of " + wrong, x.table(wrong, 0), Due.BEYOND);
        }
        for (int wrong : new int[] {-1, 3, Integer.MIN_VALUE, Integer.MAX_VALUE}) {
            Due.due("table's " + wrong, x.table(1, wrong), Due.BEYOND);
        }
        Due.due("1 wasn't in it", x.table(1, 0), Due.NONE);
        Due.due("3 wasn't in it", x.table(3, 2), Due.NONE);
        Due.due("order -1", x.order(-1), Due.BEYOND);
        Due.due("order least", x.order(Integer.MIN_VALUE), Due.BEYOND);
        Due.due("order 0", x.order(0), 0);
        Due.due("order 1", x.order(1), 2);
        Due.due("order 2", x.order(2), Due.NONE);
        Due.due("order most", x.order(Integer.MAX_VALUE), Due.NONE);
        Due.due("a wrong league leaves the table", x.league(8, 1), Due.BEYOND);
        Due.due("table", x.table(0, 0), 1);
        Due.due("no match of it goes on", x.count(4), 0);
    }

    private static void draws() {
        ToyPitch x = new ToyPitch();
        int[] matches = {0, 0, 0, 1, 0, 1, 1, 3, 0, 1, 1, 3, 1, 3, 3, 6};
        for (int set = 0; set < 16; set++) {
            Due.due("league of " + set, x.league(set, 1), matches[set] == 0 ? Due.BEYOND : matches[set]);
        }
        for (int team = 0; team < 4; team++) {
            Due.due("points", x.table(team, 0), 3);
            Due.due("shot", x.table(team, 1), 0);
            Due.due("against", x.table(team, 2), 0);
            Due.due("order", x.order(team), team);
        }
    }

    /** Robot 0 of the team runs to the ball from (6, 4) and shoots; nobody else has a program, or stands in the way. */
    private static void shooter(ToyPitch x, int team, int program) {
        x.program(team, 0, program);
        x.start(team, 0, 6, 4);
    }

    private static ToyPitch four() {
        ToyPitch x = new ToyPitch();
        Due.due("read", Due.readText(x, "state s{when held=2{kick 1 0 9;}when 1=1{to ballx bally;}}"), 0);
        for (int team = 0; team < 4; team++) {
            x.start(team, 0, 0, 0);
        }
        return x;
    }

    private static void table(ToyPitch x, int team, int points, int shot, int against) {
        Due.due("points of " + team, x.table(team, 0), points);
        Due.due("shot by " + team, x.table(team, 1), shot);
        Due.due("against " + team, x.table(team, 2), against);
    }

    /** A goal every 4 ticks: in tick 3, 7 and 11, at home as away. */
    private static void oneTeamShoots() {
        ToyPitch x = four();
        shooter(x, 2, 0);
        Due.due("league", x.league(15, 12), 6);
        table(x, 0, 2, 0, 3);
        table(x, 1, 2, 0, 3);
        table(x, 2, 9, 9, 0);
        table(x, 3, 2, 0, 3);
        int[] order = {2, 0, 1, 3};
        for (int i = 0; i < 4; i++) {
            Due.due("order " + i, x.order(i), order[i]);
        }
        Due.due("league", x.league(12, 3), 1);
        table(x, 2, 1, 0, 0);
        Due.due("0 isn't in this one", x.table(0, 0), Due.NONE);
        Due.due("league", x.league(12, 4), 1);
        table(x, 2, 3, 1, 0);
        table(x, 3, 0, 0, 1);
    }

    /** Team 3 shoots every 4 ticks, team 1 goes for it later and slower: fewer goals, the same points against 0 and 2. */
    private static void orderByGoals() {
        ToyPitch x = four();
        Due.due("read", Due.readText(x, "state s{when tick<9{stay;}when held=2{kick 1 0 9;}when 1=1{to ballx bally;}}"), 1);
        shooter(x, 3, 0);
        shooter(x, 1, 1);
        Due.due("league", x.league(7, 30), 3);
        Due.due("1 is first", x.order(0), 1);
        Due.due("then 0", x.order(1), 0);
        Due.due("then 2", x.order(2), 2);
        Due.due("league", x.league(13, 30), 3);
        Due.due("3 is first", x.order(0), 3);
        x.program(0, 0, 1);
        x.start(0, 0, 0, 0);
        x.program(1, 0, -1);
        x.start(1, 0, 0, 0);
        Due.due("league", x.league(14, 13), 3);
        table(x, 3, 6, 6, 0);
        table(x, 1, 1, 0, 3);
        table(x, 2, 1, 0, 3);
        Due.due("3 is first", x.order(0), 3);
        Due.due("the lesser number", x.order(1), 1);
    }

    /** Teams 1 and 3 stay when they meet (they know it by robot 1's row); 3 shoots on and on, 1 no more than once. */
    private static void orderByDifference() {
        ToyPitch x = four();
        String shoot = "when held=2{kick 1 0 9;}when 1=1{to ballx bally;}}";
        Due.due("read", Due.readText(x, "state s{when foey 1=0{stay;}when lead>0{stay;}" + shoot), 1);
        Due.due("read", Due.readText(x, "state s{when foey 1=0{stay;}" + shoot), 2);
        shooter(x, 1, 1);
        shooter(x, 3, 2);
        x.start(1, 1, 3, 8);
        x.start(3, 1, 3, 8);
        Due.due("league", x.league(14, 12), 3);
        table(x, 1, 4, 1, 0);
        table(x, 2, 0, 0, 4);
        table(x, 3, 4, 3, 0);
        int[] order = {3, 1, 2};
        for (int i = 0; i < 3; i++) {
            Due.due("order " + i, x.order(i), order[i]);
        }
    }

    /** Team 3 shoots, then shoots into its own goal: 1 to 1 twice; 0 and 1 are no better or worse but in goals shot. */
    private static void orderByShot() {
        ToyPitch x = four();
        Due.due("read", Due.readText(x, "state s{when held=2 and lead=1{kick 0-1 0 9;}when held=2{kick 1 0 9;}"
            + "when 1=1{to ballx bally;}}"), 1);
        shooter(x, 3, 1);
        Due.due("league", x.league(11, 8), 3);
        table(x, 0, 2, 1, 1);
        table(x, 1, 2, 1, 1);
        table(x, 3, 2, 2, 2);
        int[] order = {3, 0, 1};
        for (int i = 0; i < 3; i++) {
            Due.due("order " + i, x.order(i), order[i]);
        }
    }

    private static void matchGoesOn() {
        ToyPitch x = four();
        shooter(x, 2, 0);
        x.begin(2, 1);
        x.tick(2);
        x.keep(0);
        int column = x.ball(0);
        Due.due("league", x.league(15, 60), 6);
        Due.due("the match that was", x.differ(0), 2000);
        Due.due("its tick", x.score(0), 2);
        Due.due("its ball", x.ball(0), column);
        Due.due("no goal as yet", x.goal(0), Due.NONE);
        Due.due("it goes on", x.tick(2), 0);
        Due.due("its goal", x.goal(0), 3);
    }
}
