/** Promises 14 to 16: the places, all that a kept match has, and each thing by which two matches differ. */
public final class KeepEdgeTest {
    private static final int[] PLACES = {Integer.MIN_VALUE, -1, 0, 1, 2, Integer.MAX_VALUE};

    public static void main(String[] args) {
        places();
        bothPlaces();
        nextTick();
        keptCounts();
        keptViews();
        keptTeams();
        keptGoals();
        leagueLeavesPlaces();
        asIfNothingHadBeen();
        keptOneByOne();
        cells();
        leastColumnThenRow();
        otherRobots();
        ballAlone();
        statesAndNumbers();
        stoppedAlone();
        notCompared();
        Due.end();
    }

    /** "BEYOND. STATE.", "BEYOND. NONE: none was.", "BEYOND. STATE. NONE." */
    private static void places() {
        ToyPitch x = new ToyPitch();
        for (int k : PLACES) {
            boolean isPlace = k == 0 || k == 1;
            Due.due("keep(" + k + ") without a match", x.keep(k), isPlace ? Due.STATE : Due.BEYOND);
            Due.due("differ(" + k + ") without a match", x.differ(k), isPlace ? Due.STATE : Due.BEYOND);
            Due.due("back(" + k + ") of none", x.back(k), isPlace ? Due.NONE : Due.BEYOND);
        }
        Due.due("no match", x.count(4), 0);
        x.begin(0, 1);
        for (int k : PLACES) {
            boolean isPlace = k == 0 || k == 1;
            Due.due("differ(" + k + ") of none", x.differ(k), isPlace ? Due.NONE : Due.BEYOND);
            Due.due("back(" + k + ") of none", x.back(k), isPlace ? Due.NONE : Due.BEYOND);
            Due.due("keep(" + k + ")", x.keep(k), isPlace ? 1 : Due.BEYOND);
            Due.due("differ(" + k + ")", x.differ(k), isPlace ? 2000 : Due.BEYOND);
            Due.due("back(" + k + ")", x.back(k), isPlace ? 0 : Due.BEYOND);
        }
    }

    private static Play due(Play p, String call, int got, int want) {
        return p.due(call, got, want);
    }

    /** Each place has its own match; the latest that was kept there. */
    private static void bothPlaces() {
        for (int k = 0; k < 2; k++) {
            Play p = new Play("place " + k).begin(0, 1).tick(3, -1);
            due(p, "keep", p.x.keep(k), 1);
            due(p, "the other is empty", p.x.back(1 - k), Due.NONE);
            due(p, "the other is empty", p.x.differ(1 - k), Due.NONE);
            p.tick(4, -1);
            due(p, "keep at the other", p.x.keep(1 - k), 1);
            due(p, "back", p.x.back(k), 3);
            due(p, "back to the other", p.x.back(1 - k), 7);
            p.tick(2, -1);
            due(p, "keep anew", p.x.keep(k), 1);
            p.tick(1, 1);
            due(p, "back", p.x.back(k), 9);
            due(p, "back to the other", p.x.back(1 - k), 7);
        }
    }

    /** "The match is that which was kept: its next tick's number." - again and again, also where another match goes on. */
    private static void nextTick() {
        Play p = new Play("next tick").begin(0, 1);
        due(p, "keep", p.x.keep(0), 1);
        due(p, "back", p.x.back(0), 0);
        p.tick(50, 1).tick(1, -1);
        due(p, "keep", p.x.keep(1), 1);
        p.begin(2, 3).tick(5, -1);
        due(p, "back", p.x.back(1), 51);
        p.score(0, 51).score(4, 5).tick(1, -1).score(0, 52);
        due(p, "back", p.x.back(0), 0);
        due(p, "back", p.x.back(1), 51);
        p.tick(8, -1).tick(1, 1);
    }

    /** SLEEP, KEEPS and TACKLES are counted on from what was kept. */
    private static void keptCounts() {
        Play p = new Play("SLEEP goes on").begin(0, 1).tick(5, -1);
        due(p, "keep", p.x.keep(0), 1);
        p.tick(3, -1);
        due(p, "back", p.x.back(0), 5);
        p.tick(4, -1).tick(1, 1);
        due(p, "back", p.x.back(0), 5);
        p.tick(4, -1).tick(1, 1);
        p = new Play("KEEPS and TACKLES go on");
        p.aside(0, 0).start(1, 0, 6, 4).give(0, 0, "state s{when tick=0{move 1 0;}}");
        p.give(1, 0, "state s{when tick=2{move 1 0;}}").begin(0, 1).tick(1, -1).ball(7, 4, 0);
        due(p, "keep", p.x.keep(0), 1);
        p.tick(2, -1).ball(8, 4, 5).score(7, 1);
        due(p, "keep", p.x.keep(1), 1);
        p.tick(11, -1).tick(1, 2);
        due(p, "back", p.x.back(1), 3);
        p.ball(8, 4, 5).score(7, 1).score(5, 0).tick(11, -1).tick(1, 2).score(5, 1);
        due(p, "back", p.x.back(0), 1);
        p.ball(7, 4, 0).score(7, 0).tick(1, -1).ball(7, 4, 0).tick(1, -1).ball(8, 4, 5).score(7, 1);
    }

    /** LATE, LOST and where the ball was are those of the match that was kept. */
    private static void keptViews() {
        Play p = new Play("views of a kept match");
        p.aside(0, 0).views(1, 3, 0).give(0, 0, "state s{when tick=0{move 1 0;}when myx<14{move 1 0;}}").begin(0, 1).tick(5, -1);
        due(p, "keep", p.x.keep(0), 1);
        p.ball(11, 4).robot(6, 8, 7).views(1, 0, 0).begin(0, 1).tick(2, -1).robot(6, 8, 7).tick(1, -1).robot(6, 8, 8);
        due(p, "back", p.x.back(0), 5);
        p.robot(6, 8, 7).robot(6, 9, 4);
        for (int tick = 5; tick < 9; tick++) {
            p.tick(1, -1).robot(6, 8, tick + 3);
        }
        p = new Play("LOST of a kept match");
        p.aside(0, 0).views(1, 0, 2).give(0, 0, "state s{when tick=0{move 1 0;}when myx<14{move 1 0;}}").begin(0, 1).tick(3, -1);
        due(p, "keep", p.x.keep(0), 1);
        p.views(1, 0, 0).begin(0, 1);
        due(p, "back", p.x.back(0), 3);
        p.tick(1, -1).robot(5, 8, 9).robot(6, 8, 8).tick(1, -1).robot(5, 8, 9).robot(6, 8, 10);
    }

    /** "with its teams' programs and STARTS as it has them" - and the teams whose new ones come with its next KICK-OFF. */
    private static void keptTeams() {
        Play p = new Play("teams of a kept match");
        String goals = "state s{when held=2{kick 1 0 9;}when 1=1{to 7 4;}}";
        for (int team = 2; team < 4; team++) {
            for (int k = 0; k < 5; k++) {
                p.start(team, k, 2 + k, team == 2 ? 0 : 8);
            }
        }
        p.start(2, 0, 6, 4).give(2, 0, goals).begin(2, 3).tick(1, -1);
        due(p, "keep", p.x.keep(1), 1);
        due(p, "none", p.x.program(2, 0, -1), 1);
        p.start(2, 0, 3, 3).start(3, 0, 1, 1).begin(0, 1).tick(6, -1);
        due(p, "back", p.x.back(1), 1);
        p.robot(0, 2, 0).at(0, 7, 4).at(5, 12, 0).tick(2, -1).tick(1, 0).robot(0, 2, -1).at(0, 3, 3).at(5, 13, 7).goal(0, 3);
        due(p, "back", p.x.back(1), 1);
        p.tick(3, 0).at(0, 3, 3);
        due(p, "back", p.x.back(1), 1);
        p.give(2, 0, goals).start(2, 0, 6, 4).tick(3, 0).at(0, 6, 4).robot(0, 2, 0).tick(4, 0).goal(1, 7);
    }

    private static void keptGoals() {
        Play p = new Play("goals of a kept match");
        p.aside(0, 0).give(0, 0, "state s{when held=2{kick 1 0 9;}when 1=1{to 7 4;}}").begin(0, 1).tick(4, 0);
        due(p, "keep", p.x.keep(0), 1);
        p.tick(8, 0).goal(0, 3).goal(1, 7).goal(2, 11).score(1, 3);
        due(p, "keep", p.x.keep(1), 1);
        due(p, "back", p.x.back(0), 4);
        p.goal(0, 3).goal(1, Due.NONE).score(1, 1).score(3, 1).tick(1, -1).tick(3, 0).goal(1, 7).goal(2, Due.NONE);
        due(p, "back", p.x.back(1), 12);
        p.goal(2, 11).goal(3, Due.NONE).begin(1, 0).goal(0, Due.NONE);
        due(p, "tell", p.x.tell(3), 1);
        due(p, "back", p.x.back(0), 4);
        due(p, "check", p.x.check(), 0);
    }

    private static void leagueLeavesPlaces() {
        Play p = new Play("a league").begin(0, 1).tick(7, -1);
        due(p, "keep", p.x.keep(0), 1);
        p.tick(1, -1);
        due(p, "league", p.x.league(15, 60), 6);
        p.score(0, 8).tick(1, -1).tick(1, 1);
        due(p, "back", p.x.back(0), 7);
        p.tick(2, -1).tick(1, 1);
    }

    private static final String[] LIVELY = {
        "state s{when held=2 and myx>9{kick 1 4-myy 6;}when held=2{set a a+tick;go z;to 12 7;}when 1=1{set b near;to ballx bally;}}"
            + "state z{when held=2 and myx>9{kick 0-1 3-myy 7;}when held=2{set c c+1;move 1 1;}when 1=1{go s;to ballx bally;}}",
        "state s{when tick>6" + " and 1=1".repeat(27) + "{}when 1=1{set d tick;to 3 tick;}}",
        "state s{when held=2{kick 1 0 9;}when 1=1{to 7 4;}}",
        "state s{when held=2{kick 0-1 0 9;}when 1=1{to ballx bally;}}",
    };

    private static ToyPitch lively(int home) {
        ToyPitch x = new ToyPitch();
        for (String text : LIVELY) {
            Due.readText(x, text);
        }
        for (int team = 0; team < 4; team++) {
            for (int k = 0; k < 5; k++) {
                x.program(team, k, (team + k) % 4);
                x.start(team, k, 2 + (k + team) % 5, (2 * k + team) % 9);
            }
            x.views(team, 3 - team, team == 0 ? 0 : team + 1);
        }
        x.begin(home, (home + 1) % 4);
        return x;
    }

    private static String all(ToyPitch x) {
        StringBuilder b = new StringBuilder();
        for (int what = 0; what < 9; what++) {
            b.append(what < 6 ? x.ball(what) : 0).append(' ').append(x.score(what)).append(' ').append(x.goal(what)).append(' ');
        }
        for (int r = 0; r < 10; r++) {
            for (int what = 0; what < 11; what++) {
                b.append(x.robot(r, what)).append(' ');
            }
        }
        return b.toString();
    }

    /** One plays a match through; another keeps it, plays another one, and is back: from then on all shows alike. */
    private static void asIfNothingHadBeen() {
        for (int home = 0; home < 4; home++) {
            for (int ticks = 1; ticks < 34; ticks += 2) {
                for (int late = 1; late < 30; late += 7) {
                    ToyPitch plain = lively(home);
                    ToyPitch asked = lively(home);
                    plain.tick(ticks);
                    asked.tick(ticks);
                    asked.keep(1);
                    asked.begin((home + 2) % 4, (home + 1) % 4);
                    asked.tick(late);
                    Due.due("back", asked.back(1), ticks);
                    same("behind " + ticks, all(asked), all(plain));
                    plain.tick(1 + late % 3);
                    asked.tick(1 + late % 3);
                    same("going on from " + ticks, all(asked), all(plain));
                }
            }
        }
    }

    private static void same(String what, String got, String want) {
        Due.due(what + (got.equals(want) ? "" : "\n " + got + "\n " + want), got.equals(want) ? 1 : 0, 1);
    }

    /** A STOPPED robot, its OVERRUN, the count of SLEEP at another cell, and rows of the views are kept, too. */
    private static void keptOneByOne() {
        Play p = new Play("STOPPED");
        p.give(0, 0, "state s{when 1=1" + " and 1=1".repeat(27) + "{}}").begin(0, 1).tick(1, -1).robot(0, 3, 1).score(8, 1);
        due(p, "keep", p.x.keep(0), 1);
        p.begin(1, 0).robot(0, 3, 0).score(8, 0);
        due(p, "back", p.x.back(0), 1);
        p.robot(0, 3, 1).score(8, 1).tick(1, -1).score(8, 1);
        for (String kick : new String[] {"0 1 1", "1 0 1", "1 1 1"}) {
            p = Play.carrier("SLEEP at another cell", 0, 7, 4, kick).tick(5, -1);
            due(p, "keep", p.x.keep(0), 1);
            p.begin(1, 2).tick(7, -1);
            due(p, "back", p.x.back(0), 6);
            p.tick(4, -1).tick(1, 1);
        }
        p = new Play("rows of views").aside(0, 0).views(1, 3, 0);
        p.give(0, 0, "state s{when tick=0{move 1 0;}when 1=1{move 0 1;}}").begin(0, 1).tick(4, -1).ball(7, 7, 0).robot(8, 9, 4);
        due(p, "keep", p.x.keep(0), 1);
        p.begin(1, 2).tick(3, -1);
        due(p, "back", p.x.back(0), 4);
        p.robot(8, 9, 4).robot(0, 10, 1).tick(1, -1).robot(8, 9, 4).tick(1, -1).robot(8, 9, 5).tick(1, -1).robot(8, 9, 6);
        p = new Play("AWAY's goals").aside(0, 0).give(0, 0, "state s{when held=2{kick 0-1 0 9;}when 1=1{to 7 4;}}");
        p.begin(0, 1).tick(4, 0).goal(0, 1003);
        due(p, "keep", p.x.keep(0), 1);
        p.due("none", p.x.program(0, 0, -1), 1).give(1, 0, "state s{when tick>0 and held=2{kick 0-1 0 9;}when tick>0{to 7 4;}}");
        p.start(1, 0, 6, 3).begin(0, 1).tick(5, 0).goal(0, 4).score(2, 0);
        due(p, "back", p.x.back(0), 4);
        p.goal(0, 1003).score(1, 0).score(2, 1).goal(1, Due.NONE);
    }

    /** Kept with HOME's and AWAY's 0 far away; then they start at a cell, and its mirror. */
    private static Play moved(String name, int team, int column, int row) {
        Play p = new Play(name);
        p.start(team, 0, 6, 4).begin(0, 1);
        due(p, "keep", p.x.keep(0), 1);
        return p.start(team, 0, column, row).begin(0, 1);
    }

    /** "Column and 15 times the row"; from (0, 0) to (14, 8), where AWAY's 0 alone is. */
    private static void cells() {
        for (int row = 0; row < 9; row++) {
            Play p = moved("column 0, row " + row, 0, 0, row);
            due(p, "differ", p.x.differ(0), 15 * row);
            p = moved("column 14, row " + row, 1, 0, 8 - row);
            due(p, "the cell that it left", p.x.differ(0), 8 + 15 * 4);
        }
        Play p = new Play("in column 14 alone");
        p.start(1, 0, 0, 0).start(1, 1, 0, 1).begin(0, 1);
        due(p, "keep", p.x.keep(0), 1);
        p.start(1, 0, 0, 1).start(1, 1, 0, 0).begin(0, 1);
        due(p, "differ", p.x.differ(0), 14 + 15 * 7);
        p.start(1, 1, 0, 2).start(1, 0, 0, 0).begin(0, 1);
        due(p, "differ", p.x.differ(0), 14 + 15 * 6);
        due(p, "keep", p.x.keep(0), 1);
        p.start(1, 0, 0, 2).start(1, 1, 0, 0).begin(0, 1);
        due(p, "differ", p.x.differ(0), 14 + 15 * 6);
    }

    /** "The cell with the least column, then row" */
    private static void leastColumnThenRow() {
        Play p = new Play("two columns").begin(0, 1);
        due(p, "keep", p.x.keep(0), 1);
        p.start(0, 3, 2, 8).start(0, 4, 3, 0).begin(0, 1);
        due(p, "differ", p.x.differ(0), 2 + 15 * 8);
        p.start(0, 3, 4, 8).start(0, 4, 4, 7).begin(0, 1);
        due(p, "differ", p.x.differ(0), 4 + 15 * 7);
        p.start(0, 3, 5, 3).start(0, 4, 5, 5).begin(0, 1);
        due(p, "alike", p.x.differ(0), 2000);
    }

    /** "have other robots (or one of them none)" */
    private static void otherRobots() {
        Play p = new Play("two have changed places").begin(0, 1);
        due(p, "keep", p.x.keep(0), 1);
        p.start(0, 1, 3, 6).start(0, 2, 3, 2).begin(0, 1);
        due(p, "other robots in (3, 2)", p.x.differ(0), 3 + 15 * 2);
        p = new Play("one has gone");
        p.aside(0, 0).give(0, 4, "state s{when 1=1{move 0 1;}}").begin(0, 1);
        due(p, "keep", p.x.keep(0), 1);
        p.tick(1, -1);
        due(p, "the match has none in (6, 0)", p.x.differ(0), 6);
        due(p, "keep", p.x.keep(1), 1);
        due(p, "back", p.x.back(0), 0);
        due(p, "the kept one has none in (6, 0)", p.x.differ(1), 6);
    }

    /** Kept ahead of the kick; then so many ticks more. */
    private static void ballBehind(String kick, int column, int row, int ahead, int behind, int due) {
        Play p = Play.carrier("the ball", 0, column, row, kick);
        p.x.tick(ahead);
        due(p, "keep", p.x.keep(0), 1);
        p.x.tick(behind);
        due(p, "differ behind " + ahead + " and " + behind, p.x.differ(0), due);
    }

    /** "1000 if there is none such, but the ball .. aren't alike": by its cell, holder, power or way. */
    private static void ballAlone() {
        ballBehind("0 1 1", 7, 4, 1, 1, 2000);
        ballBehind("0 1 2", 7, 4, 1, 8, 2000);
        ballBehind("0 1 2", 7, 4, 1, 9, 1000);
        ballBehind("0 1 6", 7, 4, 1, 1, 1000);
        ballBehind("0 1 6", 7, 4, 2, 1, 2000);
        ballBehind("0 1 6", 7, 4, 1, 2, 1000);
        Play p = Play.carrier("the holder alone", 0, 7, 8, "0 1 1");
        due(p, "keep", p.x.keep(0), 1);
        p.ball(7, 8, 0, 0, 0, 0).tick(1, -1).ball(7, 8, -1, 0, 0, 0);
        due(p, "differ", p.x.differ(0), 1000);
        wayAlone();
    }

    /** HOME's 0 kicks the ball down from (7, 4) in tick 1 with a power; then so many ticks are over. */
    private static void kicked(Play p, int power, int ticks) {
        p.give(0, 0, "state s{when tick=0{to 7 4;}when tick=1{kick 0 1 " + power + ";}}").begin(0, 1).tick(ticks, -1);
    }

    private static void wayAlone() {
        Play p = new Play("way or power alone");
        kicked(p.aside(0, 0), 6, 2);
        p.ball(7, 7, -1, 3, 0, 1);
        due(p, "keep", p.x.keep(0), 1);
        kicked(p, 7, 2);
        p.ball(7, 7, -1, 4, 0, 1);
        due(p, "another power", p.x.differ(0), 1000);
        kicked(p, 9, 3);
        p.ball(7, 7, -1, 3, 0, -1);
        due(p, "another way", p.x.differ(0), 1000);
        kicked(p, 6, 2);
        due(p, "alike", p.x.differ(0), 2000);
    }

    /** Each robot by itself, and each of its four numbers. */
    private static void statesAndNumbers() {
        String[] acts = {"go z;", "set a 1;", "set b 1;", "set c 1;", "set d 1;", "set a 0;", "go s;"};
        for (int r = 0; r < 10; r++) {
            for (int i = 0; i < acts.length; i++) {
                Play p = new Play("robot " + r + " by " + acts[i]);
                p.due("a program that nobody has", Due.readText(p.x, "state s{}"), 0);
                p.give(r / 5, r % 5, "state s{when tick=1{" + acts[i] + "}}state z{}").begin(0, 1).tick(1, -1);
                due(p, "keep", p.x.keep(1), 1);
                due(p, "alike", p.x.differ(1), 2000);
                p.tick(1, -1);
                due(p, "differ", p.x.differ(1), i < 5 ? 1000 : 2000);
                due(p, "back", p.x.back(1), 1);
                due(p, "alike", p.x.differ(1), 2000);
            }
        }
        Play p = new Play("a program and none").begin(0, 1);
        due(p, "keep", p.x.keep(0), 1);
        p.give(1, 4, "state s{}").begin(0, 1);
        due(p, "state 0 and none", p.x.differ(0), 1000);
    }

    private static void stoppedAlone() {
        for (int r = 0; r < 10; r++) {
            Play p = new Play("robot " + r + " is STOPPED");
            p.give(r / 5, r % 5, "state s{when tick=1" + " and 1=1".repeat(27) + "{}}").begin(0, 1).tick(1, -1);
            due(p, "keep", p.x.keep(0), 1);
            p.tick(1, -1).robot(r, 3, 1);
            due(p, "differ", p.x.differ(0), 1000);
        }
    }

    /** "2000 if all that is alike": views, commands, the tick, goals and counts are no part of it. */
    private static void notCompared() {
        Play p = Play.carrier("views and commands", 0, 7, 4, "0 1 1").tick(1, -1).robot(3, 9, 4).robot(0, 10, 2);
        due(p, "keep", p.x.keep(0), 1);
        p.tick(1, -1).robot(3, 9, 5).robot(0, 10, 0);
        due(p, "differ", p.x.differ(0), 2000);
        p = new Play("a goal, and all as at first");
        p.aside(0, 0).give(0, 0, "state s{when held=2{kick 1 0 9;}when 1=1{to 7 4;}}").begin(0, 1);
        due(p, "keep", p.x.keep(0), 1);
        p.tick(4, 0).score(1, 1);
        due(p, "differ", p.x.differ(0), 2000);
        p = new Play("other teams").begin(0, 1);
        due(p, "keep", p.x.keep(0), 1);
        p.begin(3, 2);
        due(p, "differ", p.x.differ(0), 2000);
        p.tick(10, 1).score(4, 1);
        due(p, "differ", p.x.differ(0), 2000);
    }
}
