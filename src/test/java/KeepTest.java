/** Promises 14 to 16: keep, back, differ. */
public final class KeepTest {
    private static final String SHOOT = "state s{when held=2{kick 1 0 9;}when held=0{to ballx bally;}}";

    public static void main(String[] args) {
        findings();
        goesOnAlike();
        ownTeams();
        ownStarts();
        differences();
        alikeAgain();
        Due.end();
    }

    private static void findings() {
        ToyPitch x = new ToyPitch();
        int[] wrong = {-1, 2, Integer.MIN_VALUE, Integer.MAX_VALUE};
        for (int k : wrong) {
            Due.due("keep " + k, x.keep(k), Due.BEYOND);
            Due.due("back " + k, x.back(k), Due.BEYOND);
            Due.due("differ " + k, x.differ(k), Due.BEYOND);
        }
        Due.due("keep without a match", x.keep(0), Due.STATE);
        Due.due("differ without a match", x.differ(0), Due.STATE);
        Due.due("back without one kept", x.back(1), Due.NONE);
        x.begin(0, 1);
        Due.due("differ without one kept", x.differ(0), Due.NONE);
        Due.due("keep", x.keep(0), 1);
        Due.due("the other place is empty", x.back(1), Due.NONE);
        Due.due("the other place is empty", x.differ(1), Due.NONE);
        Due.due("found BEYOND", x.found(Due.BEYOND), 12);
        Due.due("found STATE", x.found(Due.STATE), 2);
        Due.due("found NONE", x.found(Due.NONE), 4);
    }

    private static long all(ToyPitch x) {
        long sum = 0;
        for (int what = 0; what < 6; what++) {
            sum = sum * 31 + x.ball(what);
        }
        for (int r = 0; r < 10; r++) {
            for (int what = 0; what < 11; what++) {
                sum = sum * 31 + x.robot(r, what);
            }
        }
        for (int what = 0; what < 9; what++) {
            sum = sum * 31 + x.score(what);
        }
        return sum;
    }

    /** A kept match goes on as the first one did, view by view, however the other went on meanwhile. */
    private static void goesOnAlike() {
        ToyPitch x = new ToyPitch();
        Due.give(x, 0, 3, "state s{when held=2 and myx>9{kick 1 4-myy 5;}when held=2{move 1 0;set a a+tick;}when near<9{to ballx bally;}}");
        x.program(1, 3, 0);
        x.program(1, 1, 0);
        x.views(0, 3, 4);
        x.views(1, 1, 0);
        x.begin(0, 1);
        x.tick(13);
        Due.due("keep", x.keep(1), 1);
        long[] first = new long[3];
        for (int i = 0; i < 3; i++) {
            x.tick(i + 1);
            first[i] = all(x);
        }
        for (int again = 0; again < 2; again++) {
            x.tick(17);
            Due.due("back", x.back(1), 13);
            Due.due("next tick", x.score(0), 13);
            Due.due("alike", x.differ(1), 2000);
            if (again == 0) {
                for (int i = 0; i < 3; i++) {
                    x.tick(i + 1);
                    Due.due("as before", all(x) == first[i] ? 1 : 0, 1);
                }
            }
        }
        x.begin(2, 3);
        Due.due("back from another match", x.back(1), 13);
    }

    /** The match that is gone on from has its programs and STARTS; new ones come with its next KICK-OFF. */
    private static void ownTeams() {
        ToyPitch x = new ToyPitch();
        Due.give(x, 0, 0, SHOOT);
        x.start(0, 0, 6, 4);
        x.start(1, 0, 0, 8);
        x.begin(0, 1);
        x.keep(0);
        x.program(0, 0, -1);
        x.start(0, 0, 0, 0);
        x.begin(0, 1);
        Due.due("it has none", x.robot(0, 2), -1);
        Due.due("another START", x.robot(0, 0), 0);
        Due.due("back", x.back(0), 0);
        Due.due("its state", x.robot(0, 2), 0);
        Due.due("its START", x.robot(0, 0), 6);
        Due.due("it shoots", x.tick(4), 0);
        Due.due("goal", x.goal(0), 3);
        Due.due("none behind the KICK-OFF", x.robot(0, 2), -1);
        Due.due("the new START", x.robot(0, 0), 0);
        Due.due("back again", x.back(0), 0);
        Due.due("no goals there", x.goal(0), Due.NONE);
        Due.due("it shoots again", x.tick(4), 0);
    }

    /** CROWD puts robot 3 at the START that the kept match has, not at the one of the match that was between. */
    private static void ownStarts() {
        ToyPitch x = new ToyPitch();
        Due.give(x, 0, 3, "state s{when 1=1{move 0-1 0;}}");
        x.start(0, 1, 2, 2);
        x.start(0, 2, 2, 6);
        x.begin(0, 1);
        x.tick(2);
        x.keep(0);
        x.start(0, 3, 6, 8);
        x.begin(0, 1);
        x.back(0);
        Due.due("CROWD", x.tick(1), 3);
        Due.due("column", x.robot(3, 0), 5);
        Due.due("row", x.robot(3, 1), 3);
    }

    private static void differences() {
        ToyPitch x = new ToyPitch();
        Due.give(x, 0, 2, "state s{when tick=0{move 1 0;}}");
        x.begin(0, 1);
        x.keep(0);
        x.tick(1);
        Due.due("(3, 6) has none now", x.differ(0), 3 + 15 * 6);
        x.keep(1);
        x.back(0);
        Due.due("(3, 6) has one now", x.differ(1), 3 + 15 * 6);
        Due.due("none such at 0", x.differ(0), 2000);
        x = new ToyPitch();
        x.begin(0, 1);
        x.keep(0);
        x.start(0, 0, 3, 2);
        x.start(0, 1, 1, 4);
        x.begin(0, 1);
        Due.due("other robots in (1, 4)", x.differ(0), 1 + 15 * 4);
        x = new ToyPitch();
        x.begin(0, 1);
        x.keep(0);
        x.start(0, 3, 1, 8);
        x.start(0, 4, 2, 0);
        x.begin(0, 1);
        Due.due("the least column first", x.differ(0), 1 + 15 * 8);
    }

    private static void unlike(String text, int ticks, int due) {
        ToyPitch x = new ToyPitch();
        Due.give(x, 0, 0, text);
        x.start(0, 0, 6, 4);
        x.begin(0, 1);
        x.tick(1);
        x.keep(0);
        x.tick(ticks);
        Due.due("differ by " + text, x.differ(0), due);
    }

    /** The ball lies at (8, 4), then law SLEEP puts it at (7, 4): nothing but its column is another. */
    private static void sleepingBall() {
        ToyPitch x = new ToyPitch();
        Due.give(x, 0, 0, "state s{when tick=0{move 1 0;}when tick=1{kick 1 0 1;}when tick=2{move 0-1 0;}}");
        x.start(0, 0, 6, 4);
        x.begin(0, 1);
        x.tick(3);
        x.keep(0);
        Due.due("ticks 3 .. 9", x.tick(7), -1);
        Due.due("alike", x.differ(0), 2000);
        Due.due("SLEEP", x.tick(1), 1);
        Due.due("the ball's column", x.ball(0), 7);
        Due.due("not alike", x.differ(0), 1000);
    }

    private static void alikeAgain() {
        unlike("state s{}", 8, 2000);
        unlike("state s{when tick=1{go t;}}state t{}", 1, 1000);
        unlike("state s{when tick=1{set d 1;}}", 1, 1000);
        unlike("state s{when tick=1{set d 1;}when tick=2{set d 0;}}", 2, 2000);
        String many = "set a 0*1*1*1*1*1*1*1*1*1*1*1;";
        unlike("state s{when tick=1{" + many.repeat(7) + "}}", 1, 1000);
        unlike("state s{when tick=0{move 1 0;}when tick=1{kick 0 1 1;}}", 1, 1000);
        unlike("state s{when tick=0{move 1 0;}when tick=1{stay;}}", 1, 2000);
        sleepingBall();
        unlike("state s{when tick=0{move 1 0;}when held=2{kick 0 1 9;}}", 2, 1000);
        unlike("state s{when tick=0{move 1 0;}when held=2{kick 0 1 9;}}", 3, 2000);
    }
}
