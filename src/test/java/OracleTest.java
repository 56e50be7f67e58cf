import java.util.Random;

/** Plays many runs of calls on ToyPitch and on the Oracle, and wants the same answers (all promises). */
public final class OracleTest {
    private static final int RUNS = 1500;
    private static final int CALLS = 512;

    private final Random random;
    private final ToyPitch x = new ToyPitch();
    private final Oracle oracle = new Oracle();
    private final StringBuilder log = new StringBuilder();
    private final Texts texts;
    private final int run;
    private int calls = 0;
    private boolean isAlike = true;

    private OracleTest(int run) {
        this.run = run;
        random = new Random(run);
        texts = new Texts(random);
    }

    public static void main(String[] args) {
        long[] seen = new long[9];
        int runs = args.length > 1 ? Integer.parseInt(args[1]) : RUNS;
        for (int run = 0; run < runs && Due.isClean(); run++) {
            OracleTest test = new OracleTest(run);
            test.play();
            for (int what = 0; what < 9 && test.oracle.game != null; what++) {
                seen[what] += test.oracle.call("score", what);
            }
        }
        String[] names = {"ticks", "home goals", "away goals", "law 0", "law 1", "law 2", "law 3", "tackles", "overruns"};
        for (int what = 0; what < 9; what++) {
            System.out.println(names[what] + " at the ends of the runs: " + seen[what]);
            Due.due("some " + names[what], seen[what] > 0 ? 1 : 0, 1);
        }
        Due.end();
    }

    private void ask(String name, long... a) {
        if (calls >= CALLS || !isAlike) {
            return;
        }
        calls++;
        log.append(name).append(java.util.Arrays.toString(a)).append('\n');
        int want = oracle.call(name, a);
        int got = Due.call(x, name, a);
        isAlike = got == want;
        if (!isAlike) {
            System.out.println(log);
        }
        Due.due("run " + run + ", call " + calls + ": " + name + java.util.Arrays.toString(a), got, want);
    }

    private int upTo(int n) {
        return random.nextInt(n);
    }

    /** Mostly 0 .. n - 1, at times just beyond, at times far off. */
    private int near(int n) {
        int kind = upTo(60);
        if (kind == 0) {
            return -1;
        }
        if (kind == 1) {
            return n;
        }
        if (kind == 2) {
            return new int[] {Integer.MIN_VALUE, Integer.MAX_VALUE, -1001, 1000}[upTo(4)];
        }
        return upTo(n);
    }

    private void text(String text) {
        for (int from = 0; from < text.length(); from += 8) {
            int n = Math.min(8, text.length() - from);
            long eight = random.nextLong();
            for (int i = n - 1; i >= 0; i--) {
                int shift = 8 * i;
                eight = eight & ~(255L << shift) | (long) (text.charAt(from + i) & 255) << shift;
            }
            ask("feed", eight, n);
        }
        ask("read");
        ask("fault");
    }

    private void play() {
        int many = upTo(6);
        for (int i = 0; i < many; i++) {
            text(texts.next());
        }
        if (oracle.programs.isEmpty()) {
            text("state s{when held=2{kick 1 0 9;}when 1=1{to ballx bally;}}");
        }
        int changes = 4 + upTo(20);
        for (int i = 0; i < changes; i++) {
            team();
        }
        if (upTo(3) == 0) {
            openGame();
        }
        for (int i = 0; i < 4 * CALLS && calls < CALLS && isAlike; i++) {
            any();
        }
    }

    /** One that shoots well against a team without programs, so that goals, and lists of them, come about. */
    private void openGame() {
        int shooting = upTo(4);
        int other = (shooting + 1 + upTo(3)) % 4;
        for (int k = 0; k < 5; k++) {
            ask("program", other, k, -1);
            ask("start", other, k, 2 + k, upTo(2) * 8);
            ask("start", shooting, k, 2 + k, 1 + upTo(8));
        }
        boolean isHome = upTo(2) == 0;
        ask("begin", isHome ? shooting : other, isHome ? other : shooting);
    }

    private void team() {
        switch (upTo(5)) {
            case 0:
                ask("start", near(4), near(5), near(7), near(9));
                break;
            case 1:
                ask("views", near(4), near(4), upTo(4) == 0 ? 0 : near(10));
                break;
            default:
                ask("program", near(4), near(5), near(Math.max(1, oracle.programs.size() + (upTo(10) == 0 ? 2 : 0))));
        }
    }

    private void any() {
        switch (upTo(24)) {
            case 0:
                if (oracle.game == null || upTo(6) == 0) {
                    ask("begin", near(4), near(4));
                }
                break;
            case 1:
                team();
                break;
            case 2:
                if (upTo(10) == 0) {
                    text(texts.next());
                } else {
                    ask("count", near(5));
                }
                break;
            case 3:
                ask("keep", near(2));
                break;
            case 4:
                if (upTo(3) == 0) {
                    ask("back", near(2));
                }
                break;
            case 5:
                ask("differ", near(2));
                break;
            case 6:
                if (upTo(4) == 0) {
                    ask("league", near(16), 1 + near(60));
                }
                ask("table", near(4), near(3));
                ask("order", near(5));
                break;
            case 7:
                goals();
                break;
            case 8:
                ask("found", -1001 - near(5));
                ask("goal", near(6));
                break;
            case 9:
                ask("feed", random.nextLong(), near(9));
                break;
            case 10:
            case 11:
                ask("score", near(9));
                break;
            case 12:
            case 13:
                ask("ball", near(6));
                break;
            case 14:
                all();
                break;
            default:
                ask("tick", upTo(8) == 0 ? near(52) : 1 + upTo(4));
                ask("robot", near(10), near(11));
        }
    }

    private void all() {
        for (int what = 0; what < 6; what++) {
            ask("ball", what);
        }
        for (int r = 0; r < 10; r++) {
            int from = upTo(11);
            for (int what = from; what < 11; what++) {
                ask("robot", r, what);
            }
        }
        for (int what = 0; what < 9; what++) {
            ask("score", what);
        }
    }

    private void goals() {
        if (oracle.game == null) {
            ask("tell", upTo(9));
            ask("check");
            return;
        }
        int many = Math.min(20, oracle.game.goals.size()) + upTo(3) - 1;
        for (int i = 0; i < many; i++) {
            boolean isRight = i < oracle.game.goals.size() && upTo(12) > 0;
            ask("tell", isRight ? oracle.game.goals.get(i) : upTo(2000));
        }
        ask("check");
    }
}
