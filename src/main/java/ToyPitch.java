/**
 * A toy field on which two fives of small machines play by programs of their own.
 * Everything that a call needs is made in the constructor and used again, so that no call makes an object.
 */
public final class ToyPitch {
    private static final int BEYOND = -1001;
    private static final int FULL = -1002;
    private static final int STATE = -1003;
    private static final int NONE = -1004;
    private static final int TEXT = -1005;
    private static final int FINDINGS = 5;

    private static final int MOST_BYTES = 800;
    private static final int MOST_PROGRAMS = 6;
    private static final int MOST_TOLD = 20;
    private static final int MOST_TICKS = 50;
    private static final int MOST_LEAGUE_TICKS = 60;
    private static final int TEAMS = 4;
    private static final int PLACES = 2;
    private static final int SIDE = 5;
    private static final int ROBOTS = 10;
    private static final int COLUMNS = 15;
    private static final int ROWS = 9;
    private static final int START_COLUMNS = 7;
    private static final int MIDDLE_X = 7;
    private static final int MIDDLE_Y = 4;

    private final int[] foundOf = new int[FINDINGS];
    private final Reader reader = new Reader();
    private final Program[] programs = new Program[MOST_PROGRAMS];
    private final Team[] teams = new Team[TEAMS];
    private final Match match;
    private final Match leagueMatch;
    private final Match[] kept = new Match[PLACES];
    private final League standing = new League();
    private final int[] told = new int[MOST_TOLD];
    private int toldCount = 0;
    private int programCount = 0;
    private int faultPlace = -1;

    public ToyPitch() {
        for (int i = 0; i < programs.length; i++) {
            programs[i] = new Program();
        }
        for (int i = 0; i < teams.length; i++) {
            teams[i] = new Team();
        }
        match = new Match(teams, programs);
        leagueMatch = new Match(teams, programs);
        for (int i = 0; i < kept.length; i++) {
            kept[i] = new Match(teams, programs);
        }
    }

    // ---- texts

    public int feed(long eight, int n) {
        if (n < 1 || n > 8) {
            return finding(BEYOND);
        }
        if (reader.length() + n > MOST_BYTES) {
            return finding(FULL);
        }
        for (int i = 0; i < n; i++) {
            reader.append((int) (eight >>> (8 * i)) & 255);
        }
        return reader.length();
    }

    public int read() {
        if (programCount >= programs.length) {
            return finding(FULL);
        }
        faultPlace = reader.compile(programs[programCount]);
        reader.empty();
        if (faultPlace >= 0) {
            return finding(TEXT);
        }
        programCount++;
        return programCount - 1;
    }

    public int fault() {
        return faultPlace;
    }

    // ---- teams

    public int program(int team, int k, int program) {
        if (!isTeam(team) || !isMember(k) || program < -1 || program >= programCount) {
            return finding(BEYOND);
        }
        teams[team].program[k] = program;
        return 1;
    }

    public int start(int team, int k, int x, int y) {
        boolean isStart = x >= 0 && x < START_COLUMNS && y >= 0 && y < ROWS;
        if (!isTeam(team) || !isMember(k) || !isStart) {
            return finding(BEYOND);
        }
        teams[team].startX[k] = x;
        teams[team].startY[k] = y;
        return 1;
    }

    public int views(int team, int late, int lost) {
        boolean isLate = late >= 0 && late <= 3;
        boolean isLost = lost == 0 || lost >= 2 && lost <= 9;
        if (!isTeam(team) || !isLate || !isLost) {
            return finding(BEYOND);
        }
        teams[team].late = late;
        teams[team].lost = lost;
        return 1;
    }

    // ---- a match

    public int begin(int home, int away) {
        if (!isTeam(home) || !isTeam(away)) {
            return finding(BEYOND);
        }
        match.open(home, away);
        return 1;
    }

    public int tick(int n) {
        if (!match.isOpen) {
            return finding(STATE);
        }
        if (n < 1 || n > MOST_TICKS) {
            return finding(BEYOND);
        }
        return match.play(n);
    }

    public int ball(int what) {
        if (!match.isOpen) {
            return finding(STATE);
        }
        if (what < 0 || what >= Ball.SHOWN) {
            return finding(BEYOND);
        }
        return match.ball.shown(what);
    }

    public int robot(int r, int what) {
        if (!match.isOpen) {
            return finding(STATE);
        }
        if (r < 0 || r >= match.robots.length || what < 0 || what >= Robot.SHOWN) {
            return finding(BEYOND);
        }
        return match.robots[r].shown(what);
    }

    public int score(int what) {
        if (!match.isOpen) {
            return finding(STATE);
        }
        if (what < 0 || what >= Tally.SHOWN) {
            return finding(BEYOND);
        }
        return what == 0 ? match.now : match.tally.shown(what);
    }

    public int goal(int i) {
        if (!match.isOpen) {
            return finding(STATE);
        }
        if (i < 0 || i >= match.tally.listed()) {
            return finding(NONE);
        }
        return match.tally.goalAt(i);
    }

    public int keep(int k) {
        if (!isPlace(k)) {
            return finding(BEYOND);
        }
        if (!match.isOpen) {
            return finding(STATE);
        }
        kept[k].copy(match);
        return 1;
    }

    public int back(int k) {
        if (!isPlace(k)) {
            return finding(BEYOND);
        }
        if (!kept[k].isOpen) {
            return finding(NONE);
        }
        match.copy(kept[k]);
        return match.now;
    }

    public int differ(int k) {
        if (!isPlace(k)) {
            return finding(BEYOND);
        }
        if (!match.isOpen) {
            return finding(STATE);
        }
        if (!kept[k].isOpen) {
            return finding(NONE);
        }
        return match.difference(kept[k]);
    }

    // ---- leagues

    public int league(int set, int n) {
        boolean isSet = set >= 0 && set < 1 << TEAMS && Integer.bitCount(set) >= 2;
        if (!isSet || n < 1 || n > MOST_LEAGUE_TICKS) {
            return finding(BEYOND);
        }
        standing.clear(set);
        int matches = 0;
        for (int home = 0; home < TEAMS; home++) {
            for (int away = home + 1; away < TEAMS; away++) {
                if (standing.has(home) && standing.has(away)) {
                    leagueMatch.open(home, away);
                    leagueMatch.play(n);
                    standing.enter(home, away, leagueMatch.tally.homeGoals, leagueMatch.tally.awayGoals);
                    matches++;
                }
            }
        }
        return matches;
    }

    public int table(int team, int what) {
        if (!isTeam(team) || what < 0 || what > 2) {
            return finding(BEYOND);
        }
        if (!standing.has(team)) {
            return finding(NONE);
        }
        return standing.shown(team, what);
    }

    public int order(int i) {
        if (i < 0) {
            return finding(BEYOND);
        }
        int team = standing.teamAt(i);
        return team < 0 ? finding(NONE) : team;
    }

    // ---- what is told

    public int tell(int v) {
        if (toldCount >= told.length) {
            return finding(FULL);
        }
        told[toldCount] = v;
        toldCount++;
        return toldCount;
    }

    public int check() {
        int many = toldCount;
        toldCount = 0;
        if (!match.isOpen) {
            return finding(STATE);
        }
        int listed = match.tally.listed();
        for (int i = 0; i < listed; i++) {
            if (i >= many || at(told, i) != match.tally.goalAt(i)) {
                return 1 + i;
            }
        }
        return many > listed ? 99 : 0;
    }

    public int count(int what) {
        switch (what) {
            case 0:
                return programCount;
            case 1:
                return reader.length();
            case 2:
                return programCount == 0 ? 0 : programs[0].states;
            case 3:
                return toldCount;
            case 4:
                return match.isOpen ? 1 : 0;
            default:
                return finding(BEYOND);
        }
    }

    public int found(int finding) {
        if (finding > BEYOND || finding <= BEYOND - FINDINGS) {
            return finding(BEYOND);
        }
        return at(foundOf, BEYOND - finding);
    }

    private int finding(int code) {
        int i = BEYOND - code;
        if (i >= 0 && i < foundOf.length) {
            foundOf[i]++;
        }
        return code;
    }

    private static boolean isTeam(int team) {
        return team >= 0 && team < TEAMS;
    }

    private static boolean isMember(int k) {
        return k >= 0 && k < SIDE;
    }

    private static boolean isPlace(int k) {
        return k >= 0 && k < PLACES;
    }

    private static int at(int[] row, int i) {
        return i >= 0 && i < row.length ? row[i] : 0;
    }

    private static void put(int[] row, int i, int value) {
        if (i >= 0 && i < row.length) {
            row[i] = value;
        }
    }

    private static int cut(int value, int least, int most) {
        return Math.max(least, Math.min(most, value));
    }

    private static int distance(int x, int y, int otherX, int otherY) {
        return Math.max(Math.abs(x - otherX), Math.abs(y - otherY));
    }

    /** The kinds of words, numbered as they stand in these texts, so that kinds of one use make a range. */
    private static final class Word {
        static final String KEYWORDS = "state when and go set move to kick stay matex matey foex foey ";
        static final String SOURCES = "a b c d ballx bally myx myy held tick lead near ";
        static final String SIGNS = "{}<=>+-*;";
        static final int OF_STATE = 0;
        static final int WHEN = 1;
        static final int AND = 2;
        static final int GO = 3;
        static final int SET = 4;
        static final int MOVE = 5;
        static final int TO = 6;
        static final int KICK = 7;
        static final int STAY = 8;
        static final int MATEX = 9;
        static final int OWN_A = 13;
        static final int OWN_D = 16;
        static final int BALLX = 17;
        static final int NUMBER = 25;
        static final int NAME = 26;
        static final int OPEN = 27;
        static final int CLOSE = 28;
        static final int LESS = 29;
        static final int GREATER = 31;
        static final int PLUS = 32;
        static final int MINUS = 33;
        static final int TIMES = 34;
        static final int STOP = 35;
        static final int BAD = 36;
        static final int END = 37;
    }

    /** The tape, split into words and read from the first of them on. */
    private static final class Reader {
        private static final int MOST_LETTERS = 12;
        private static final int MOST_NUMBER = 999;
        private static final int MOST_SIGNS = 6;
        private static final int MOST_TERMS = 12;
        private static final int MOST_ACTS = 8;
        private static final int MOST_RULES = 12;
        private static final int MOST_STATES = 8;

        private final int[] tape = new int[MOST_BYTES];
        private final long[] known = new long[Word.NUMBER];
        private final int[] kinds = new int[MOST_BYTES + 1];
        private final long[] values = new long[MOST_BYTES + 1];
        private final int[] places = new int[MOST_BYTES + 1];
        private int bytes = 0;
        private int words = 0;
        private int next = 0;
        private long taken = 0;
        private int refused = -1;

        Reader() {
            learn(Word.KEYWORDS, 0);
            learn(Word.SOURCES, Word.OWN_A);
        }

        private void learn(String texts, int first) {
            int word = first;
            long packed = 0;
            for (int i = 0; i < texts.length(); i++) {
                char letter = texts.charAt(i);
                if (letter != ' ') {
                    packed = pack(packed, letter);
                } else if (word < known.length) {
                    known[word] = packed;
                    word++;
                    packed = 0;
                }
            }
        }

        int length() {
            return bytes;
        }

        void append(int oneByte) {
            if (bytes < tape.length) {
                tape[bytes] = oneByte;
                bytes++;
            }
        }

        void empty() {
            bytes = 0;
        }

        /** Reads the tape to a program; answers where its FAULT is, -1 if it has none. */
        int compile(Program p) {
            p.clear();
            next = 0;
            refused = -1;
            split();
            for (int n = 0; n <= MOST_STATES && refused < 0 && (n == 0 || kind() != Word.END); n++) {
                if (n == MOST_STATES) {
                    refuse();
                }
                take(Word.OF_STATE, Word.OF_STATE);
                take(Word.NAME, Word.NAME);
                p.openState(taken);
                take(Word.OPEN, Word.OPEN);
                for (int r = 0; r <= MOST_RULES && refused < 0 && kind() == Word.WHEN; r++) {
                    if (r == MOST_RULES) {
                        refuse();
                    }
                    readRule(p);
                }
                take(Word.CLOSE, Word.CLOSE);
                p.closeState();
            }
            judgeNames(p);
            if (refused < 0) {
                p.resolveGoes();
            }
            return refused;
        }

        /** Twelve letters of five bits each fit into a long, so that names are compared as numbers. */
        private static long pack(long before, int letter) {
            return before * 32 + (letter - 'a' + 1);
        }

        private static boolean isLetter(int b) {
            return b >= 'a' && b <= 'z';
        }

        private static boolean isFigure(int b) {
            return b >= '0' && b <= '9';
        }

        private static boolean isBlank(int b) {
            return b == 32 || b == 10;
        }

        /** Splits no further than the first bad word, since no text goes on behind that. */
        private void split() {
            words = 0;
            int i = 0;
            boolean good = true;
            while (i < bytes && good) {
                int b = at(tape, i);
                if (isLetter(b)) {
                    i = Math.max(i + 1, splitName(i));
                } else if (isFigure(b)) {
                    i = Math.max(i + 1, splitNumber(i));
                } else {
                    if (!isBlank(b)) {
                        splitSign(i, b);
                    }
                    i++;
                }
                good = words == 0 || at(kinds, words - 1) != Word.BAD;
            }
            addWord(Word.END, 0, bytes);
        }

        private int splitName(int from) {
            long packed = 0;
            int i = from;
            while (i < bytes && isLetter(at(tape, i))) {
                packed = pack(packed, at(tape, i));
                i++;
            }
            addWord(i - from > MOST_LETTERS ? Word.BAD : kindOf(packed), packed, from);
            return i;
        }

        private int kindOf(long packed) {
            for (int word = 0; word < known.length; word++) {
                if (known[word] == packed) {
                    return word;
                }
            }
            return Word.NAME;
        }

        private int splitNumber(int from) {
            int value = 0;
            int i = from;
            while (i < bytes && isFigure(at(tape, i))) {
                value = Math.min(MOST_NUMBER + 1, value * 10 + at(tape, i) - '0');
                i++;
            }
            addWord(value > MOST_NUMBER ? Word.BAD : Word.NUMBER, value, from);
            return i;
        }

        private void splitSign(int from, int b) {
            int sign = Word.SIGNS.indexOf((char) b);
            addWord(sign < 0 ? Word.BAD : Word.OPEN + sign, 0, from);
        }

        private void addWord(int kind, long value, int place) {
            if (words < kinds.length) {
                kinds[words] = kind;
                values[words] = value;
                places[words] = place;
                words++;
            }
        }

        private int kind() {
            return next >= 0 && next < kinds.length ? kinds[next] : Word.END;
        }

        private void refuse() {
            if (refused < 0 && next >= 0 && next < places.length) {
                refused = places[next];
            }
        }

        /** Goes past a word of one of these kinds, and answers which; any other is the FAULT, and ends the reading. */
        private int take(int least, int most) {
            int kind = kind();
            if (refused < 0 && kind >= least && kind <= most && next < values.length) {
                taken = values[next];
                next++;
                return kind;
            }
            refuse();
            return Word.BAD;
        }

        private void readRule(Program p) {
            take(Word.WHEN, Word.WHEN);
            boolean goesOn = true;
            for (int n = 0; n < MOST_BYTES && refused < 0 && goesOn; n++) {
                readSum(p);
                int sign = take(Word.LESS, Word.GREATER);
                readSum(p);
                p.addTest(sign);
                goesOn = kind() == Word.AND;
                if (goesOn) {
                    take(Word.AND, Word.AND);
                }
            }
            take(Word.OPEN, Word.OPEN);
            for (int n = 0; n <= MOST_ACTS && refused < 0 && kind() != Word.CLOSE; n++) {
                if (n == MOST_ACTS) {
                    refuse();
                }
                readAct(p);
            }
            take(Word.CLOSE, Word.CLOSE);
            p.closeRule();
        }

        private void readAct(Program p) {
            int act = take(Word.GO, Word.STAY);
            long target = 0;
            int sums = 0;
            if (act == Word.GO) {
                take(Word.NAME, Word.NAME);
                target = taken;
            } else if (act == Word.SET) {
                target = take(Word.OWN_A, Word.OWN_D) - Word.OWN_A;
                sums = 1;
            } else if (act == Word.MOVE || act == Word.TO) {
                sums = 2;
            } else if (act == Word.KICK) {
                sums = 3;
            }
            for (int n = 0; n < sums; n++) {
                readSum(p);
            }
            take(Word.STOP, Word.STOP);
            p.addAct(act, target, sums);
        }

        private void readSum(Program p) {
            int join = Word.PLUS;
            boolean goesOn = true;
            for (int n = 0; n <= MOST_TERMS && refused < 0 && goesOn; n++) {
                if (n == MOST_TERMS) {
                    refuse();
                }
                readTerm(p, join);
                goesOn = kind() >= Word.PLUS && kind() <= Word.TIMES;
                if (goesOn) {
                    join = take(Word.PLUS, Word.TIMES);
                }
            }
            p.closeSum();
        }

        private void readTerm(Program p, int join) {
            int sign = 1;
            for (int n = 0; n <= MOST_SIGNS && refused < 0 && kind() == Word.MINUS; n++) {
                if (n == MOST_SIGNS) {
                    refuse();
                }
                take(Word.MINUS, Word.MINUS);
                sign = -sign;
            }
            int term = take(Word.MATEX, Word.NUMBER);
            if (term < Word.OWN_A) {
                if (next < values.length && values[next] >= SIDE) {
                    refuse();
                }
                take(Word.NUMBER, Word.NUMBER);
                p.addTerm(join, sign, Program.SENSE, Runner.OTHERS + (term - Word.MATEX) * SIDE + (int) taken);
            } else if (term <= Word.OWN_D) {
                p.addTerm(join, sign, Program.OWN, term - Word.OWN_A);
            } else if (term < Word.NUMBER) {
                p.addTerm(join, sign, Program.SENSE, term - Word.BALLX);
            } else {
                p.addTerm(join, sign, Program.CONSTANT, (int) taken);
            }
        }

        /** Asked in the order of the text; a NAME stands behind state or go alone. */
        private void judgeNames(Program p) {
            int statesSoFar = 0;
            for (int i = 1; i < words && i < kinds.length && refused < 0; i++) {
                if (kinds[i] == Word.NAME) {
                    int owner = p.stateNamed(values[i]);
                    boolean isWrong = owner < 0;
                    if (kinds[i - 1] == Word.OF_STATE) {
                        isWrong = owner < statesSoFar;
                        statesSoFar++;
                    }
                    if (isWrong) {
                        refused = places[i];
                    }
                }
            }
        }
    }

    /** A text that was read: rows of states, rules, tests, acts, sums and terms, each in the order of the text. */
    private static final class Program {
        static final int CONSTANT = 0;
        static final int OWN = 1;
        static final int SENSE = 2;
        private static final int MOST_STATES = 8;
        private static final int MOST_RULES = 96;
        /** With the words and signs around them, terms take two bytes of a text or more each; all else takes more. */
        private static final int MOST_PARTS = MOST_BYTES / 2;

        int states = 0;
        final long[] names = new long[MOST_STATES];
        final int[] firstRule = new int[MOST_STATES + 1];
        private int rules = 0;
        final int[] firstTest = new int[MOST_RULES + 1];
        final int[] firstAct = new int[MOST_RULES + 1];
        private int tests = 0;
        final int[] testSign = new int[MOST_PARTS];
        final int[] testSum = new int[MOST_PARTS];
        private int acts = 0;
        final int[] actKind = new int[MOST_PARTS];
        final long[] actTarget = new long[MOST_PARTS];
        final int[] actSum = new int[MOST_PARTS];
        private int sums = 0;
        final int[] firstTerm = new int[MOST_PARTS + 1];
        private int terms = 0;
        final int[] termJoin = new int[MOST_PARTS];
        final int[] termSign = new int[MOST_PARTS];
        final int[] termSource = new int[MOST_PARTS];
        final int[] termValue = new int[MOST_PARTS];

        void clear() {
            states = 0;
            rules = 0;
            tests = 0;
            acts = 0;
            sums = 0;
            terms = 0;
        }

        void openState(long name) {
            if (states < names.length) {
                names[states] = name;
            }
        }

        void closeState() {
            states++;
            put(firstRule, states, rules);
        }

        void closeRule() {
            rules++;
            put(firstTest, rules, tests);
            put(firstAct, rules, acts);
        }

        void addTest(int sign) {
            put(testSign, tests, sign);
            put(testSum, tests, sums - 2);
            tests++;
        }

        void addAct(int kind, long target, int itsSums) {
            if (acts < actTarget.length) {
                actKind[acts] = kind;
                actTarget[acts] = target;
                actSum[acts] = sums - itsSums;
                acts++;
            }
        }

        void closeSum() {
            sums++;
            put(firstTerm, sums, terms);
        }

        void addTerm(int join, int sign, int source, int value) {
            put(termJoin, terms, join);
            put(termSign, terms, sign);
            put(termSource, terms, source);
            put(termValue, terms, value);
            terms++;
        }

        int stateNamed(long name) {
            for (int s = 0; s < states && s < names.length; s++) {
                if (names[s] == name) {
                    return s;
                }
            }
            return -1;
        }

        /** A go may name a state that comes later, so names become numbers when all is read. */
        void resolveGoes() {
            for (int i = 0; i < acts && i < actTarget.length; i++) {
                if (actKind[i] == Word.GO) {
                    actTarget[i] = stateNamed(actTarget[i]);
                }
            }
        }
    }

    private static final class Team {
        private static final int[] FIRST_X = {1, 3, 3, 5, 5};
        private static final int[] FIRST_Y = {4, 2, 6, 3, 5};

        final int[] program = new int[SIDE];
        final int[] startX = new int[SIDE];
        final int[] startY = new int[SIDE];
        int late = 0;
        int lost = 0;

        Team() {
            for (int k = 0; k < SIDE; k++) {
                program[k] = -1;
                startX[k] = at(FIRST_X, k);
                startY[k] = at(FIRST_Y, k);
            }
        }
    }

    /** One robot of a match; all cells and ways are the field's, never turned. */
    private static final class Robot {
        static final int SHOWN = 11;
        static final int STAYS = 0;
        static final int MOVES = 1;
        static final int KICKS = 2;
        private static final int OFF = -1;
        private static final int OWN_NUMBERS = 4;

        final int number;
        final boolean isTurned;
        int x = OFF;
        int y = OFF;
        int startX = 0;
        int startY = 0;
        int program = -1;
        int state = -1;
        boolean isStopped = false;
        final int[] own = new int[OWN_NUMBERS];
        int viewX = 0;
        int viewY = 0;
        int late = 0;
        int lost = 0;
        int command = STAYS;
        int wayX = 0;
        int wayY = 0;
        int power = 0;

        Robot(int number, boolean isTurned) {
            this.number = number;
            this.isTurned = isTurned;
        }

        int seenX(int column) {
            return isTurned ? COLUMNS - 1 - column : column;
        }

        int seenY(int row) {
            return isTurned ? ROWS - 1 - row : row;
        }

        void leave() {
            x = OFF;
            y = OFF;
        }

        void see(int column, int row) {
            viewX = column;
            viewY = row;
        }

        boolean isLost(int now) {
            return lost > 0 && (now + number) % lost == 0;
        }

        void decide(int what, int itsWayX, int itsWayY, int itsPower) {
            command = what;
            wayX = isTurned ? -itsWayX : itsWayX;
            wayY = isTurned ? -itsWayY : itsWayY;
            power = itsPower;
        }

        /** Takes from the team what it has now: a match hears of its teams' changes at a KICK-OFF alone. */
        void join(Team team) {
            program = at(team.program, number);
            startX = seenX(at(team.startX, number));
            startY = seenY(at(team.startY, number));
            late = team.late;
            lost = team.lost;
            state = program < 0 ? -1 : 0;
            isStopped = false;
            for (int i = 0; i < own.length; i++) {
                own[i] = 0;
            }
        }

        void copy(Robot other) {
            x = other.x;
            y = other.y;
            startX = other.startX;
            startY = other.startY;
            program = other.program;
            state = other.state;
            isStopped = other.isStopped;
            System.arraycopy(other.own, 0, own, 0, OWN_NUMBERS);
            viewX = other.viewX;
            viewY = other.viewY;
            late = other.late;
            lost = other.lost;
            command = other.command;
        }

        boolean isLike(Robot other) {
            boolean alike = state == other.state && isStopped == other.isStopped;
            for (int i = 0; i < OWN_NUMBERS; i++) {
                alike = alike && at(own, i) == at(other.own, i);
            }
            return alike;
        }

        int shown(int what) {
            switch (what) {
                case 0:
                    return x;
                case 1:
                    return y;
                case 2:
                    return state;
                case 3:
                    return isStopped ? 1 : 0;
                case 8:
                    return viewX;
                case 9:
                    return viewY;
                case 10:
                    return command;
                default:
                    return at(own, what - 4);
            }
        }
    }

    private static final class Ball {
        static final int SHOWN = 6;
        private static final int PAST = 4;
        private static final int SLEEP_TICKS = 10;

        int x = 0;
        int y = 0;
        int holder = -1;
        int got = 0;
        int power = 0;
        int wayX = 0;
        int wayY = 0;
        private int stillX = 0;
        private int stillY = 0;
        private int stillTicks = 0;
        private final int[] pastX = new int[PAST];
        private final int[] pastY = new int[PAST];

        void go(int column, int row) {
            x = column;
            y = row;
        }

        void lie(int column, int row) {
            go(column, row);
            free(0, 0, 0);
            stillTicks = 0;
        }

        void free(int itsWayX, int itsWayY, int itsPower) {
            holder = -1;
            wayX = itsWayX;
            wayY = itsWayY;
            power = itsPower;
        }

        void hold(int r, int column, int row, int now) {
            free(0, 0, 0);
            go(column, row);
            holder = r;
            got = now;
        }

        void remember(int now) {
            put(pastX, now & PAST - 1, x);
            put(pastY, now & PAST - 1, y);
        }

        /** What was ahead of a KICK-OFF is seen by nobody any more. */
        void forget() {
            for (int i = 0; i < PAST; i++) {
                remember(i);
            }
        }

        int pastX(int then) {
            return at(pastX, then & PAST - 1);
        }

        int pastY(int then) {
            return at(pastY, then & PAST - 1);
        }

        /** Asked once at the end of a tick, since it counts them. */
        boolean hasSlept() {
            boolean isSame = stillTicks > 0 && stillX == x && stillY == y;
            stillTicks = holder >= 0 ? 0 : isSame ? stillTicks + 1 : 1;
            stillX = x;
            stillY = y;
            return stillTicks >= SLEEP_TICKS;
        }

        void copy(Ball other) {
            x = other.x;
            y = other.y;
            holder = other.holder;
            got = other.got;
            power = other.power;
            wayX = other.wayX;
            wayY = other.wayY;
            stillX = other.stillX;
            stillY = other.stillY;
            stillTicks = other.stillTicks;
            System.arraycopy(other.pastX, 0, pastX, 0, PAST);
            System.arraycopy(other.pastY, 0, pastY, 0, PAST);
        }

        boolean isLike(Ball other) {
            boolean alike = true;
            for (int what = 0; what < SHOWN; what++) {
                alike = alike && shown(what) == other.shown(what);
            }
            return alike;
        }

        int shown(int what) {
            switch (what) {
                case 0:
                    return x;
                case 1:
                    return y;
                case 2:
                    return holder;
                case 3:
                    return power;
                case 4:
                    return power > 0 ? wayX : 0;
                default:
                    return power > 0 ? wayY : 0;
            }
        }
    }

    /** What a match counts. */
    private static final class Tally {
        static final int SHOWN = 9;
        private static final int LISTED = 20;
        private static final int AWAY_GOAL = 1000;
        private static final int LAWS = 4;

        int homeGoals = 0;
        int awayGoals = 0;
        int tackles = 0;
        int overruns = 0;
        private final int[] applied = new int[LAWS];
        private final int[] goals = new int[LISTED];

        void clear() {
            homeGoals = 0;
            awayGoals = 0;
            tackles = 0;
            overruns = 0;
            for (int i = 0; i < applied.length; i++) {
                applied[i] = 0;
            }
        }

        int listed() {
            return Math.min(LISTED, homeGoals + awayGoals);
        }

        int goalAt(int i) {
            return at(goals, i);
        }

        void addGoal(boolean isAway, int now) {
            put(goals, homeGoals + awayGoals, isAway ? now + AWAY_GOAL : now);
            if (isAway) {
                awayGoals++;
            } else {
                homeGoals++;
            }
        }

        void addLaw(int law) {
            put(applied, law, at(applied, law) + 1);
        }

        void copy(Tally other) {
            homeGoals = other.homeGoals;
            awayGoals = other.awayGoals;
            tackles = other.tackles;
            overruns = other.overruns;
            System.arraycopy(other.applied, 0, applied, 0, LAWS);
            System.arraycopy(other.goals, 0, goals, 0, LISTED);
        }

        int shown(int what) {
            switch (what) {
                case 1:
                    return homeGoals;
                case 2:
                    return awayGoals;
                case 7:
                    return tackles;
                case 8:
                    return overruns;
                default:
                    return at(applied, what - 3);
            }
        }
    }

    /** Runs a robot's program for one tick. */
    private static final class Runner {
        static final int OTHERS = 8;
        private static final int SENSES = OTHERS + 4 * SIDE;
        private static final int MOST_STEPS = 80;
        private static final int MOST_POWER = 9;

        /** What the robot senses, by the order of the SENSORS, then matex 0 .. 4, matey, foex, foey. */
        final int[] senses = new int[SENSES];
        private int steps = 0;
        private int nextState = 0;

        /** Leaves the command with the robot; answers whether it OVERRUNS. */
        boolean run(Program p, Robot robot) {
            steps = 0;
            nextState = robot.state;
            boolean hasCommand = false;
            int end = at(p.firstRule, robot.state + 1);
            for (int rule = at(p.firstRule, robot.state); rule < end && steps <= MOST_STEPS && !hasCommand; rule++) {
                if (allHold(p, rule, robot.own)) {
                    hasCommand = doActs(p, rule, robot);
                }
            }
            if (steps > MOST_STEPS) {
                robot.decide(Robot.STAYS, 0, 0, 0);
                robot.isStopped = true;
                return true;
            }
            robot.state = nextState;
            return false;
        }

        private boolean allHold(Program p, int rule, int[] own) {
            boolean hold = true;
            int end = at(p.firstTest, rule + 1);
            for (int test = at(p.firstTest, rule); test < end && hold; test++) {
                steps++;
                int sum = at(p.testSum, test);
                int left = work(p, sum, own);
                int right = work(p, sum + 1, own);
                int sign = at(p.testSign, test);
                hold = sign == Word.LESS ? left < right : sign == Word.GREATER ? left > right : left == right;
                hold = hold && steps <= MOST_STEPS;
            }
            return hold;
        }

        /** Answers whether one of the acts was a command. */
        private boolean doActs(Program p, int rule, Robot robot) {
            int end = at(p.firstAct, rule + 1);
            for (int act = at(p.firstAct, rule); act < end && act < p.actTarget.length && steps <= MOST_STEPS; act++) {
                steps++;
                int kind = p.actKind[act];
                int sum = p.actSum[act];
                int target = (int) p.actTarget[act];
                if (kind == Word.GO) {
                    nextState = target;
                } else if (kind == Word.SET) {
                    int value = work(p, sum, robot.own);
                    if (steps <= MOST_STEPS) {
                        put(robot.own, target, value);
                    }
                } else {
                    command(p, kind, sum, robot);
                    return true;
                }
            }
            return false;
        }

        private void command(Program p, int kind, int sum, Robot robot) {
            if (kind == Word.STAY) {
                robot.decide(Robot.STAYS, 0, 0, 0);
                return;
            }
            int x = work(p, sum, robot.own);
            int y = work(p, sum + 1, robot.own);
            int power = kind == Word.KICK ? work(p, sum + 2, robot.own) : 1;
            if (kind == Word.TO) {
                x -= robot.seenX(robot.x);
                y -= robot.seenY(robot.y);
            }
            int what = kind == Word.KICK ? Robot.KICKS : Robot.MOVES;
            robot.decide(what, cut(x, -1, 1), cut(y, -1, 1), cut(power, 1, MOST_POWER));
        }

        /** Works out a sum, term by term; behind the last allowed step the answer means nothing. */
        private int work(Program p, int sum, int[] own) {
            int total = 0;
            int product = 0;
            int end = at(p.firstTerm, sum + 1);
            for (int term = at(p.firstTerm, sum); term < end && steps <= MOST_STEPS; term++) {
                steps++;
                int source = at(p.termSource, term);
                int value = at(p.termValue, term);
                if (source == Program.OWN) {
                    value = at(own, value);
                } else if (source == Program.SENSE) {
                    value = at(senses, value);
                }
                value *= at(p.termSign, term);
                int join = at(p.termJoin, term);
                if (join == Word.TIMES) {
                    product *= value;
                } else {
                    total += product;
                    product = join == Word.MINUS ? -value : value;
                }
            }
            return total + product;
        }
    }

    /** A match, with its teams' programs, STARTS, LATE and LOST as it took them at its latest KICK-OFF. */
    private static final class Match {
        private static final int ROLLS = 3;
        private static final int FIRST_GOAL_ROW = 3;
        private static final int LAST_GOAL_ROW = 5;
        private static final int TACKLE_TICKS = 2;
        private static final int KEEPS_TICKS = 12;
        private static final int CROWD_SIZE = 4;
        private static final int CROWD_COLUMN = 2;
        private static final int NOT_ALIKE = 1000;
        private static final int ALIKE = 2000;
        private static final int NO_GOAL = 0;
        private static final int HOME_GOAL = 1;
        private static final int AWAY_GOAL = 2;

        private final Team[] teams;
        private final Program[] programs;
        private final Runner runner = new Runner();
        final Robot[] robots = new Robot[ROBOTS];
        final Ball ball = new Ball();
        final Tally tally = new Tally();
        boolean isOpen = false;
        int now = 0;
        private int home = 0;
        private int away = 0;

        Match(Team[] teams, Program[] programs) {
            this.teams = teams;
            this.programs = programs;
            for (int r = 0; r < robots.length; r++) {
                robots[r] = new Robot(r % SIDE, r >= SIDE);
            }
        }

        void open(int homeTeam, int awayTeam) {
            isOpen = true;
            now = 0;
            home = homeTeam;
            away = awayTeam;
            tally.clear();
            for (int r = 0; r < robots.length; r++) {
                robots[r].decide(Robot.STAYS, 0, 0, 0);
            }
            kickOff();
        }

        /** Answers which LAW applied in the last of n ticks, -1 if none did. */
        int play(int n) {
            int law = -1;
            for (int i = 0; i < n; i++) {
                boolean isEven = now % 2 == 0;
                ball.remember(now);
                for (int r = 0; r < ROBOTS; r++) {
                    think(isEven ? r : ROBOTS - 1 - r);
                }
                for (int r = 0; r < ROBOTS; r++) {
                    doCommand(isEven ? r : ROBOTS - 1 - r);
                }
                law = applyLaws(roll());
                if (law >= 0) {
                    tally.addLaw(law);
                }
                now++;
            }
            return law;
        }

        private void kickOff() {
            for (int r = 0; r < robots.length; r++) {
                robots[r].leave();
            }
            for (int r = 0; r < robots.length; r++) {
                int team = r < SIDE ? home : away;
                if (team >= 0 && team < teams.length) {
                    robots[r].join(teams[team]);
                }
                putAtStart(r);
            }
            putBall();
            ball.forget();
            for (int r = 0; r < robots.length; r++) {
                robots[r].see(ball.x, ball.y);
            }
        }

        private void putAtStart(int r) {
            if (r < 0 || r >= robots.length) {
                return;
            }
            Robot robot = robots[r];
            robot.leave();
            int cell = freeCell(robot.startX, robot.startY);
            robot.x = cell % COLUMNS;
            robot.y = cell / COLUMNS;
            if (ball.holder == r) {
                ball.go(robot.x, robot.y);
            }
        }

        private void putBall() {
            int cell = freeCell(MIDDLE_X, MIDDLE_Y);
            ball.lie(cell % COLUMNS, cell / COLUMNS);
        }

        /** The cell without a robot that is nearest to this one: its column and 15 times its row. */
        private int freeCell(int x, int y) {
            if (robotIn(x, y) < 0) {
                return x + COLUMNS * y;
            }
            int best = 0;
            int least = COLUMNS;
            for (int column = 0; column < COLUMNS; column++) {
                for (int row = 0; row < ROWS; row++) {
                    int far = distance(x, y, column, row);
                    if (far < least && robotIn(column, row) < 0) {
                        least = far;
                        best = column + COLUMNS * row;
                    }
                }
            }
            return best;
        }

        private int robotIn(int x, int y) {
            for (int r = 0; r < robots.length; r++) {
                if (robots[r].x == x && robots[r].y == y) {
                    return r;
                }
            }
            return -1;
        }

        private void think(int r) {
            if (r < 0 || r >= robots.length) {
                return;
            }
            Robot robot = robots[r];
            if (!robot.isLost(now)) {
                robot.see(ball.pastX(now - robot.late), ball.pastY(now - robot.late));
            }
            robot.decide(Robot.STAYS, 0, 0, 0);
            if (robot.program >= 0 && robot.program < programs.length && !robot.isStopped) {
                sense(robot, r);
                if (runner.run(programs[robot.program], robot)) {
                    tally.overruns++;
                }
            }
        }

        private void sense(Robot robot, int r) {
            int[] senses = runner.senses;
            put(senses, 0, robot.seenX(robot.viewX));
            put(senses, 1, robot.seenY(robot.viewY));
            put(senses, 2, robot.seenX(robot.x));
            put(senses, 3, robot.seenY(robot.y));
            put(senses, 4, holding(r));
            put(senses, 5, now);
            int lead = tally.homeGoals - tally.awayGoals;
            put(senses, 6, robot.isTurned ? -lead : lead);
            put(senses, 7, distance(robot.x, robot.y, robot.viewX, robot.viewY));
            for (int other = 0; other < robots.length; other++) {
                boolean isMate = robots[other].isTurned == robot.isTurned;
                int place = Runner.OTHERS + (isMate ? 0 : 2 * SIDE) + robots[other].number;
                put(senses, place, robot.seenX(robots[other].x));
                put(senses, place + SIDE, robot.seenY(robots[other].y));
            }
        }

        private int holding(int r) {
            if (ball.holder < 0) {
                return 0;
            }
            if (ball.holder == r) {
                return 2;
            }
            return ball.holder / SIDE == r / SIDE ? 1 : -1;
        }

        private void doCommand(int r) {
            if (r < 0 || r >= robots.length) {
                return;
            }
            Robot robot = robots[r];
            if (robot.wayX == 0 && robot.wayY == 0) {
                return;
            }
            if (robot.command == Robot.MOVES) {
                move(robot, r);
            } else if (robot.command == Robot.KICKS && ball.holder == r) {
                ball.free(robot.wayX, robot.wayY, robot.power);
            }
        }

        private void move(Robot robot, int r) {
            int x = robot.x + robot.wayX;
            int y = robot.y + robot.wayY;
            if (x < 0 || x >= COLUMNS || y < 0 || y >= ROWS) {
                return;
            }
            int there = robotIn(x, y);
            if (there >= 0) {
                boolean isHoldingFoe = there == ball.holder && there / SIDE != r / SIDE;
                if (isHoldingFoe && now - ball.got >= TACKLE_TICKS) {
                    ball.hold(r, robot.x, robot.y, now);
                    tally.tackles++;
                }
                return;
            }
            robot.x = x;
            robot.y = y;
            if (ball.holder == r) {
                ball.go(x, y);
            } else if (ball.holder < 0 && ball.x == x && ball.y == y) {
                ball.hold(r, x, y, now);
            }
        }

        /** Answers whose goal fell. */
        private int roll() {
            for (int n = 0; n < ROLLS && ball.holder < 0 && ball.power > 0; n++) {
                ball.power--;
                int x = ball.x + ball.wayX;
                int y = ball.y + ball.wayY;
                boolean isBeyondColumn = x < 0 || x >= COLUMNS;
                boolean isBeyondRow = y < 0 || y >= ROWS;
                if (isBeyondColumn && y >= FIRST_GOAL_ROW && y <= LAST_GOAL_ROW) {
                    return x < 0 ? AWAY_GOAL : HOME_GOAL;
                }
                if (isBeyondColumn) {
                    ball.wayX = -ball.wayX;
                }
                if (isBeyondRow) {
                    ball.wayY = -ball.wayY;
                }
                if (!isBeyondColumn && !isBeyondRow) {
                    arrive(x, y);
                }
            }
            return NO_GOAL;
        }

        private void arrive(int x, int y) {
            int there = robotIn(x, y);
            if (there >= 0) {
                ball.hold(there, x, y, now);
            } else {
                ball.go(x, y);
            }
        }

        /** The first LAW that applies, alone; -1 if none does. */
        private int applyLaws(int goal) {
            if (goal != NO_GOAL) {
                tally.addGoal(goal == AWAY_GOAL, now);
                kickOff();
                return 0;
            }
            if (ball.hasSlept()) {
                putBall();
                return 1;
            }
            if (ball.holder >= 0 && now - ball.got >= KEEPS_TICKS) {
                giveToFoe();
                return 2;
            }
            return thinsCrowd(false) || thinsCrowd(true) ? 3 : -1;
        }

        private void giveToFoe() {
            int nearest = -1;
            int least = COLUMNS;
            for (int r = 0; r < robots.length; r++) {
                int far = distance(ball.x, ball.y, robots[r].x, robots[r].y);
                if (r / SIDE != ball.holder / SIDE && far < least) {
                    least = far;
                    nearest = r;
                }
            }
            if (nearest >= 0) {
                ball.hold(nearest, robots[nearest].x, robots[nearest].y, now);
            }
        }

        private boolean thinsCrowd(boolean ofAway) {
            int size = 0;
            int last = -1;
            for (int r = 0; r < robots.length; r++) {
                if (robots[r].isTurned == ofAway && robots[r].seenX(robots[r].x) <= CROWD_COLUMN) {
                    size++;
                    last = r;
                }
            }
            if (size < CROWD_SIZE) {
                return false;
            }
            putAtStart(last);
            return true;
        }

        void copy(Match other) {
            isOpen = other.isOpen;
            now = other.now;
            home = other.home;
            away = other.away;
            ball.copy(other.ball);
            tally.copy(other.tally);
            for (int r = 0; r < robots.length && r < other.robots.length; r++) {
                robots[r].copy(other.robots[r]);
            }
        }

        int difference(Match other) {
            for (int column = 0; column < COLUMNS; column++) {
                for (int row = 0; row < ROWS; row++) {
                    if (robotIn(column, row) != other.robotIn(column, row)) {
                        return column + COLUMNS * row;
                    }
                }
            }
            boolean alike = ball.isLike(other.ball);
            for (int r = 0; r < robots.length && r < other.robots.length; r++) {
                alike = alike && robots[r].isLike(other.robots[r]);
            }
            return alike ? ALIKE : NOT_ALIKE;
        }
    }

    /** The table of the latest league. */
    private static final class League {
        private static final int WIN = 3;
        private static final int DRAW = 1;

        private int set = 0;
        private final int[] points = new int[TEAMS];
        private final int[] shot = new int[TEAMS];
        private final int[] against = new int[TEAMS];

        void clear(int teamSet) {
            set = teamSet;
            for (int team = 0; team < TEAMS; team++) {
                put(points, team, 0);
                put(shot, team, 0);
                put(against, team, 0);
            }
        }

        boolean has(int team) {
            return team >= 0 && team < TEAMS && (set >> team & 1) == 1;
        }

        void enter(int home, int away, int homeGoals, int awayGoals) {
            enterFor(home, homeGoals, awayGoals);
            enterFor(away, awayGoals, homeGoals);
        }

        private void enterFor(int team, int itsGoals, int others) {
            int gain = itsGoals > others ? WIN : itsGoals == others ? DRAW : 0;
            put(points, team, at(points, team) + gain);
            put(shot, team, at(shot, team) + itsGoals);
            put(against, team, at(against, team) + others);
        }

        int shown(int team, int what) {
            return at(what == 0 ? points : what == 1 ? shot : against, team);
        }

        /** The team with just i others ahead of it, -1 if there is none. */
        int teamAt(int i) {
            for (int team = 0; team < TEAMS; team++) {
                int ahead = 0;
                for (int other = 0; other < TEAMS; other++) {
                    if (has(other) && isAhead(other, team)) {
                        ahead++;
                    }
                }
                if (has(team) && ahead == i) {
                    return team;
                }
            }
            return -1;
        }

        private boolean isAhead(int team, int other) {
            int byPoints = at(points, team) - at(points, other);
            int byShot = at(shot, team) - at(shot, other);
            int byDifference = byShot - at(against, team) + at(against, other);
            if (byPoints != 0) {
                return byPoints > 0;
            }
            if (byDifference != 0) {
                return byDifference > 0;
            }
            return byShot != 0 ? byShot > 0 : team < other;
        }
    }
}
