/** Promises 20 to 23: tell, check, count, found. */
public final class ToldTest {
    public static void main(String[] args) {
        tell();
        check();
        checkOfMoreThanTwenty();
        count();
        found();
        Due.end();
    }

    private static void tell() {
        ToyPitch x = new ToyPitch();
        for (int i = 1; i <= 20; i++) {
            Due.due("tell", x.tell(Integer.MIN_VALUE + i), i);
        }
        Due.due("tell FULL", x.tell(0), Due.FULL);
        Due.due("20 wait", x.count(3), 20);
        Due.due("check without a match", x.check(), Due.STATE);
        Due.due("they are gone", x.count(3), 0);
        Due.due("tell", x.tell(0), 1);
    }

    /** HOME's goals in ticks 3 and 7, since robot 0 shoots from the start on. */
    private static ToyPitch shooting(String way) {
        ToyPitch x = new ToyPitch();
        Due.give(x, 0, 0, "state s{when held=2{kick " + way + " 0 9;}when 1=1{to ballx bally;}}");
        x.start(0, 0, 6, 3);
        for (int k = 1; k < 5; k++) {
            x.start(0, k, 2 + k, 0);
        }
        x.start(1, 0, 0, 0);
        x.begin(0, 1);
        return x;
    }

    private static void says(ToyPitch x, int due, int... told) {
        for (int v : told) {
            x.tell(v);
        }
        Due.due("check", x.check(), due);
        Due.due("none wait", x.count(3), 0);
    }

    private static void check() {
        ToyPitch x = shooting("1");
        says(x, 0);
        says(x, 99, 3);
        x.tick(4);
        says(x, 0, 3);
        says(x, 1);
        says(x, 1, 4);
        says(x, 1, 1003);
        says(x, 99, 3, 7);
        says(x, 1, 4, 7);
        x.tick(5);
        says(x, 0, 3, 7);
        says(x, 2, 3);
        says(x, 2, 3, 8);
        says(x, 2, 3, 8, 9);
        says(x, 99, 3, 7, 7);
        says(x, 1);
        Due.due("no findings of it", x.found(Due.STATE), 0);
    }

    private static void checkOfMoreThanTwenty() {
        ToyPitch x = shooting("0-1");
        x.tick(50);
        x.tick(50);
        Due.due("goals", x.score(2), 25);
        int[] all = new int[20];
        for (int i = 0; i < 20; i++) {
            all[i] = 1003 + 4 * i;
        }
        says(x, 0, all);
        all[19]++;
        says(x, 20, all);
        says(x, 20, java.util.Arrays.copyOf(all, 19));
    }

    private static void count() {
        ToyPitch x = new ToyPitch();
        Due.due("read", Due.readText(x, "state x{}state y{}state z{}"), 0);
        Due.due("read", Due.readText(x, "state x{}"), 1);
        x.feed(0, 3);
        x.tell(1);
        int[] due = {2, 3, 3, 1, 0};
        for (int what = 0; what < 5; what++) {
            Due.due("count " + what, x.count(what), due[what]);
        }
        x.begin(0, 0);
        Due.due("a match", x.count(4), 1);
        for (int wrong : new int[] {-1, 5, Integer.MIN_VALUE, Integer.MAX_VALUE}) {
            Due.due("count " + wrong, x.count(wrong), Due.BEYOND);
        }
        Due.due("found", x.found(Due.BEYOND), 4);
    }

    private static void found() {
        ToyPitch x = new ToyPitch();
        int[] wrong = {0, -1000, -1006, 1001, Integer.MIN_VALUE, Integer.MAX_VALUE};
        for (int finding : wrong) {
            Due.due("found " + finding, x.found(finding), Due.BEYOND);
        }
        Due.due("counted, too", x.found(Due.BEYOND), 6);
        x.tick(1);
        x.check();
        x.back(0);
        x.order(0);
        x.goal(0);
        x.read();
        Due.due("STATE", x.found(Due.STATE), 3);
        Due.due("NONE", x.found(Due.NONE), 2);
        Due.due("TEXT", x.found(Due.TEXT), 1);
        Due.due("FULL", x.found(Due.FULL), 0);
        Due.due("BEYOND", x.found(Due.BEYOND), 6);
        Due.give(x, 0, 0, "state s{when 1=1{set a 0-999-6;}}");
        x.begin(0, 1);
        x.tick(1);
        Due.due("a number that is like a finding", x.robot(0, 4), -1005);
        Due.due("isn't one", x.found(Due.TEXT), 1);
    }
}
