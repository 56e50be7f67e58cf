/** What the project's tests share: a count of wrong answers, calls by name, and texts on the tape. */
final class Due {
    static final int BEYOND = -1001;
    static final int FULL = -1002;
    static final int STATE = -1003;
    static final int NONE = -1004;
    static final int TEXT = -1005;

    private static int wrong = 0;
    private static int asked = 0;

    private Due() { }

    static void due(String call, long got, long want) {
        asked++;
        if (got != want) {
            wrong++;
            System.out.println(call + " answered " + got + ", due is " + want);
        }
    }

    /** Ends the test: with exit code 1 if an answer was wrong, or none was asked for. */
    static void end() {
        System.out.println(asked + " answers, " + wrong + " wrong");
        if (wrong != 0 || asked == 0) {
            System.exit(1);
        }
    }

    static boolean isClean() {
        return wrong == 0;
    }

    /** Eight bytes a call; answers how many are on the tape at last. */
    static int feedText(ToyPitch x, String text) {
        int answer = 0;
        for (int from = 0; from < text.length(); from += 8) {
            int n = Math.min(8, text.length() - from);
            long eight = 0;
            for (int i = n - 1; i >= 0; i--) {
                eight = eight << 8 | text.charAt(from + i) & 255;
            }
            answer = x.feed(eight, n);
        }
        return answer;
    }

    static int readText(ToyPitch x, String text) {
        feedText(x, text);
        return x.read();
    }

    /** Reads a text that must be good, and gives it to robot k of a team. */
    static void give(ToyPitch x, int team, int k, String text) {
        int number = readText(x, text);
        due("read of " + text, number >= 0 ? 0 : number, 0);
        due("program", x.program(team, k, number), 1);
    }

    static int call(ToyPitch x, String name, long... a) {
        switch (name) {
            case "feed": return x.feed(a[0], (int) a[1]);
            case "read": return x.read();
            case "fault": return x.fault();
            case "program": return x.program((int) a[0], (int) a[1], (int) a[2]);
            case "start": return x.start((int) a[0], (int) a[1], (int) a[2], (int) a[3]);
            case "views": return x.views((int) a[0], (int) a[1], (int) a[2]);
            case "begin": return x.begin((int) a[0], (int) a[1]);
            case "tick": return x.tick((int) a[0]);
            case "ball": return x.ball((int) a[0]);
            case "robot": return x.robot((int) a[0], (int) a[1]);
            case "score": return x.score((int) a[0]);
            case "goal": return x.goal((int) a[0]);
            case "keep": return x.keep((int) a[0]);
            case "back": return x.back((int) a[0]);
            case "differ": return x.differ((int) a[0]);
            case "league": return x.league((int) a[0], (int) a[1]);
            case "table": return x.table((int) a[0], (int) a[1]);
            case "order": return x.order((int) a[0]);
            case "tell": return x.tell((int) a[0]);
            case "check": return x.check();
            case "count": return x.count((int) a[0]);
            case "found": return x.found((int) a[0]);
            default: throw new IllegalArgumentException(name);
        }
    }
}
