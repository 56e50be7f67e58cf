/**
 * FINDINGS: "Each act tells its findings in the order in which they are asked; one that answers a finding changes nothing but what
 * found() tells". Two objects go the same way; one of them is asked for a refused call in between, and nothing else shows it.
 */
public final class RefusedTest {
    private static final int MIN = Integer.MIN_VALUE;
    private static final int MAX = Integer.MAX_VALUE;
    private static final int EMPTY = 0;
    private static final int BUSY = 1;
    private static final int FULL = 2;
    private static final String GOALS = "state s{when held=2{kick 1 0 9;}when 1=1{set a a+tick;go z;to 7 4;}}"
        + "state z{when held=2{kick 1 0 9;}when 1=1{to 7 4;}}";

    public static void main(String[] args) {
        texts();
        teams();
        match();
        leagues();
        told();
        wrongBoth();
        readOfABadText();
        checkWithoutAMatch();
        Due.end();
    }

    private static ToyPitch prepared(int kind) {
        ToyPitch x = new ToyPitch();
        if (kind == EMPTY) {
            return x;
        }
        for (int i = 0; i < (kind == FULL ? 6 : 2); i++) {
            if (i == 1 && kind == BUSY) {
                Due.readText(x, "state s{when 1=1{move 0 1;}}");
                Due.readText(x, "state");
            } else {
                Due.readText(x, i == 0 ? GOALS : "state s{}");
            }
        }
        x.program(0, 0, 0);
        x.program(1, 1, 1);
        x.start(0, 0, 6, 3);
        x.start(1, 0, 0, 0);
        x.views(1, 2, 3);
        x.begin(0, 1);
        x.tick(5);
        x.keep(0);
        x.tick(2);
        x.league(7, 9);
        for (int i = 0; i < (kind == FULL ? 20 : 1); i++) {
            x.tell(3);
        }
        for (int i = 0; i < (kind == FULL ? 100 : 1); i++) {
            x.feed(0x7b7a206574617473L, 8);
        }
        return x;
    }

    /** All that calls show, but for found(). */
    private static String shown(ToyPitch x) {
        StringBuilder b = new StringBuilder();
        for (int what = 0; what < 5; what++) {
            b.append(x.count(what)).append(' ');
        }
        b.append(x.fault()).append('|');
        for (int what = 0; what < 6; what++) {
            b.append(x.ball(what)).append(' ');
        }
        for (int r = 0; r < 10; r++) {
            for (int what = 0; what < 11; what++) {
                b.append(x.robot(r, what)).append(' ');
            }
        }
        b.append('|');
        for (int what = 0; what < 9; what++) {
            b.append(x.score(what)).append(' ');
        }
        b.append(x.goal(0)).append(' ').append(x.goal(1)).append(' ').append(x.differ(0)).append(' ').append(x.differ(1)).append('|');
        for (int team = 0; team < 4; team++) {
            b.append(x.table(team, 0)).append(x.table(team, 1)).append(x.table(team, 2)).append(x.order(team)).append(' ');
        }
        return b.toString();
    }

    /** What was not shown as yet: the tape's bytes, numbers that wait, teams, the match to come, and what was kept. */
    private static String goesOn(ToyPitch x) {
        StringBuilder b = new StringBuilder();
        b.append(x.feed('}', 1)).append(' ').append(x.read()).append(' ').append(x.fault()).append(' ').append(x.check()).append(' ');
        b.append(x.tick(1)).append(' ').append(x.robot(6, 8)).append(' ').append(x.tick(4)).append(' ').append(x.ball(0)).append(' ');
        b.append(x.back(1)).append(' ').append(x.back(0)).append(' ').append(x.tick(7)).append(' ').append(x.goal(1)).append(' ');
        b.append(x.begin(0, 1)).append(x.robot(0, 0)).append(' ').append(x.robot(5, 0)).append(' ').append(x.robot(6, 2)).append(' ');
        b.append(x.tick(3)).append(' ').append(x.robot(5, 8)).append(' ').append(x.begin(2, 3)).append(x.tick(1)).append(' ');
        b.append(x.league(15, 12)).append(x.tell(7)).append(' ');
        return b.append(shown(x)).toString();
    }

    private static void refused(int kind, int finding, String name, long... a) {
        String call = name + java.util.Arrays.toString(a) + " in state " + kind;
        ToyPitch plain = prepared(kind);
        ToyPitch asked = prepared(kind);
        int[] found = new int[5];
        for (int f = 0; f < 5; f++) {
            found[f] = asked.found(-1001 - f);
        }
        Due.due(call, Due.call(asked, name, a), finding);
        for (int f = 0; f < 5; f++) {
            Due.due("found " + (-1001 - f) + " behind " + call, asked.found(-1001 - f), found[f] + (finding == -1001 - f ? 1 : 0));
        }
        same("shown behind " + call, shown(asked), shown(plain));
        same("on from " + call, goesOn(asked), goesOn(plain));
    }

    private static void same(String what, String got, String want) {
        Due.due(what + (got.equals(want) ? "" : "\n " + got + "\n " + want), got.equals(want) ? 1 : 0, 1);
    }

    private static void texts() {
        for (int kind = EMPTY; kind <= FULL; kind++) {
            for (int n : new int[] {MIN, -1, 0, 9, MAX}) {
                refused(kind, Due.BEYOND, "feed", 0x2020202020202020L, n);
            }
        }
        for (int n = 1; n <= 8; n++) {
            refused(FULL, Due.FULL, "feed", 0x2020202020202020L, n);
        }
        refused(FULL, Due.FULL, "read");
    }

    private static void teams() {
        for (int kind = EMPTY; kind <= FULL; kind++) {
            for (int team : new int[] {MIN, -1, 4, MAX}) {
                refused(kind, Due.BEYOND, "program", team, 0, -1);
                refused(kind, Due.BEYOND, "start", team, 0, 2, 2);
                refused(kind, Due.BEYOND, "views", team, 0, 0);
                refused(kind, Due.BEYOND, "begin", team, 0);
                refused(kind, Due.BEYOND, "begin", 0, team);
            }
            for (int k : new int[] {MIN, -1, 5, MAX}) {
                refused(kind, Due.BEYOND, "program", 0, k, -1);
                refused(kind, Due.BEYOND, "start", 0, k, 2, 2);
            }
            for (int program : new int[] {MIN, -2, kind == EMPTY ? 0 : kind == BUSY ? 2 : 6, MAX}) {
                refused(kind, Due.BEYOND, "program", 0, 0, program);
            }
            for (int far : new int[] {MIN, -1, 9, MAX}) {
                refused(kind, Due.BEYOND, "start", 0, 0, far, 2);
                refused(kind, Due.BEYOND, "start", 0, 0, 2, far);
            }
            refused(kind, Due.BEYOND, "start", 0, 0, 7, 0);
            refused(kind, Due.BEYOND, "views", 1, -1, 0);
            refused(kind, Due.BEYOND, "views", 1, 4, 0);
            refused(kind, Due.BEYOND, "views", 1, 0, -1);
            refused(kind, Due.BEYOND, "views", 1, 0, 1);
            refused(kind, Due.BEYOND, "views", 1, 0, 10);
        }
    }

    private static void match() {
        for (int a : new int[] {MIN, -1, 0, 1, 51, MAX}) {
            refused(EMPTY, Due.STATE, "tick", a);
            refused(EMPTY, Due.STATE, "ball", a);
            refused(EMPTY, Due.STATE, "robot", a, a);
            refused(EMPTY, Due.STATE, "score", a);
            refused(EMPTY, Due.STATE, "goal", a);
        }
        for (int k : new int[] {MIN, -1, 2, MAX}) {
            for (int kind = EMPTY; kind <= FULL; kind++) {
                refused(kind, Due.BEYOND, "keep", k);
                refused(kind, Due.BEYOND, "back", k);
                refused(kind, Due.BEYOND, "differ", k);
            }
        }
        for (int k = 0; k < 2; k++) {
            refused(EMPTY, Due.STATE, "keep", k);
            refused(EMPTY, Due.STATE, "differ", k);
            refused(EMPTY, Due.NONE, "back", k);
        }
        refused(BUSY, Due.NONE, "back", 1);
        refused(BUSY, Due.NONE, "differ", 1);
        for (int n : new int[] {MIN, -1, 0, 51, MAX}) {
            refused(BUSY, Due.BEYOND, "tick", n);
        }
        for (int far : new int[] {MIN, -1, 11, MAX}) {
            refused(BUSY, Due.BEYOND, "ball", far);
            refused(BUSY, Due.BEYOND, "robot", far, 0);
            refused(BUSY, Due.BEYOND, "robot", 0, far);
            refused(BUSY, Due.BEYOND, "score", far);
            refused(BUSY, Due.NONE, "goal", far);
        }
        refused(BUSY, Due.BEYOND, "ball", 6);
        refused(BUSY, Due.BEYOND, "robot", 10, 0);
        refused(BUSY, Due.BEYOND, "score", 9);
        refused(BUSY, Due.NONE, "goal", 1);
    }

    private static void leagues() {
        for (int kind = EMPTY; kind <= FULL; kind++) {
            for (int set : new int[] {MIN, -1, 0, 1, 8, 16, 19, MAX}) {
                refused(kind, Due.BEYOND, "league", set, 5);
            }
            for (int n : new int[] {MIN, -1, 0, 61, MAX}) {
                refused(kind, Due.BEYOND, "league", 3, n);
            }
            for (int far : new int[] {MIN, -1, 4, MAX}) {
                refused(kind, Due.BEYOND, "table", far, 0);
                refused(kind, Due.BEYOND, "table", 0, far);
            }
            refused(kind, Due.BEYOND, "table", 0, 3);
            refused(kind, Due.BEYOND, "table", 3, 3);
            refused(kind, Due.NONE, "table", 3, 0);
            refused(kind, Due.BEYOND, "order", -1);
            refused(kind, Due.BEYOND, "order", MIN);
            refused(kind, Due.NONE, "order", 3);
            refused(kind, Due.NONE, "order", MAX);
        }
    }

    private static void told() {
        for (int v : new int[] {MIN, 0, 3, MAX}) {
            refused(FULL, Due.FULL, "tell", v);
        }
        for (int kind = EMPTY; kind <= FULL; kind++) {
            for (int what : new int[] {MIN, -1, 5, MAX}) {
                refused(kind, Due.BEYOND, "count", what);
            }
            for (int finding : new int[] {MIN, -1006, -1000, 0, MAX}) {
                refused(kind, Due.BEYOND, "found", finding);
            }
        }
    }

    /** Two findings at once: the one that stands first is told. */
    private static void wrongBoth() {
        refused(FULL, Due.BEYOND, "feed", 0, 9);
        refused(FULL, Due.FULL, "read");
        refused(EMPTY, Due.STATE, "tick", 0);
        refused(EMPTY, Due.STATE, "ball", 6);
        refused(EMPTY, Due.STATE, "robot", 10, 11);
        refused(EMPTY, Due.STATE, "score", 9);
        refused(EMPTY, Due.STATE, "goal", -1);
        refused(EMPTY, Due.BEYOND, "keep", 2);
        refused(EMPTY, Due.BEYOND, "back", 2);
        refused(EMPTY, Due.BEYOND, "differ", 2);
        refused(EMPTY, Due.STATE, "differ", 1);
        refused(EMPTY, Due.BEYOND, "table", 0, 3);
        refused(EMPTY, Due.BEYOND, "order", -1);
    }

    /** "(and, of read(), fault() and the tape)": no more than these. */
    private static void readOfABadText() {
        ToyPitch plain = prepared(BUSY);
        ToyPitch asked = prepared(BUSY);
        Due.due("read", asked.read(), Due.TEXT);
        Due.due("fault", asked.fault(), 8);
        Due.due("the tape is empty", asked.count(1), 0);
        Due.due("fault of the plain one", plain.fault(), 5);
        Due.due("read", Due.readText(asked, "state"), Due.TEXT);
        Due.feedText(asked, "state z{");
        same("shown behind a bad text", shown(asked), shown(plain));
        same("on from a bad text", goesOn(asked), goesOn(plain));
    }

    /** "STATE (they are gone, too)": no more than these. */
    private static void checkWithoutAMatch() {
        ToyPitch plain = prepared(EMPTY);
        ToyPitch asked = prepared(EMPTY);
        asked.tell(3);
        Due.due("check", asked.check(), Due.STATE);
        same("shown behind check", shown(asked), shown(plain));
        same("on from check", goesOn(asked), goesOn(plain));
    }
}
