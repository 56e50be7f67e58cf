import java.util.ArrayList;
import java.util.Comparator;
import java.util.HashSet;
import java.util.LinkedHashMap;
import java.util.List;
import java.util.Map;
import java.util.Set;
import java.util.TreeMap;

/**
 * The document once more, written in another way (trees, lists, exceptions, whole histories), so that a slip in
 * one of the two shows where they are not alike. It shares no code with ToyPitch.
 */
final class Oracle {
    static final class Finding extends RuntimeException {
        private static final long serialVersionUID = 1L;
        final int code;

        Finding(int code) {
            super(null, null, false, false);
            this.code = code;
        }
    }

    static final class Fault extends RuntimeException {
        private static final long serialVersionUID = 1L;
        final int place;

        Fault(int place) {
            super(null, null, false, false);
            this.place = place;
        }
    }

    static final class Overrun extends RuntimeException {
        private static final long serialVersionUID = 1L;

        Overrun() {
            super(null, null, false, false);
        }
    }

    record Term(int minuses, String word, int number) { }

    record Part(String join, Term term) { }

    record Test(List<Part> left, String sign, List<Part> right) { }

    record Act(String kind, String target, List<List<Part>> sums) { }

    record Rule(List<Test> tests, List<Act> acts) { }

    record State(String name, List<Rule> rules) { }

    // ---- texts

    static final Set<String> KEYWORDS = Set.of("state", "when", "and", "go", "set", "move", "to", "kick", "stay",
        "matex", "matey", "foex", "foey");
    static final Set<String> OWN = Set.of("a", "b", "c", "d");
    static final Set<String> SENSORS = Set.of("ballx", "bally", "myx", "myy", "held", "tick", "lead", "near");

    static final class Parser {
        final String text;
        int at = 0;
        final Map<Integer, String> stateNames = new TreeMap<>();
        final Map<Integer, String> goNames = new TreeMap<>();

        Parser(String text) {
            this.text = text;
        }

        void blanks() {
            while (at < text.length() && (text.charAt(at) == ' ' || text.charAt(at) == '\n')) {
                at++;
            }
        }

        /** The next word, or "" at the end; a fault if there is none. */
        String peek() {
            blanks();
            if (at == text.length()) {
                return "";
            }
            int end = at;
            while (end < text.length() && text.charAt(end) >= 'a' && text.charAt(end) <= 'z') {
                end++;
            }
            if (end > at) {
                if (end - at > 12) {
                    throw new Fault(at);
                }
                return text.substring(at, end);
            }
            while (end < text.length() && text.charAt(end) >= '0' && text.charAt(end) <= '9') {
                end++;
            }
            if (end > at) {
                String figures = text.substring(at, end);
                if (new java.math.BigInteger(figures).compareTo(java.math.BigInteger.valueOf(999)) > 0) {
                    throw new Fault(at);
                }
                return figures;
            }
            if ("{}<=>+-*;".indexOf(text.charAt(at)) < 0) {
                throw new Fault(at);
            }
            return text.substring(at, at + 1);
        }

        String next() {
            String word = peek();
            if (word.isEmpty()) {
                throw new Fault(at);
            }
            at += word.length();
            return word;
        }

        void must(String word) {
            if (!peek().equals(word)) {
                throw new Fault(at);
            }
            next();
        }

        static boolean isNumber(String word) {
            return !word.isEmpty() && word.charAt(0) >= '0' && word.charAt(0) <= '9';
        }

        static boolean isName(String word) {
            return !word.isEmpty() && word.charAt(0) >= 'a' && word.charAt(0) <= 'z' && !KEYWORDS.contains(word)
                && !OWN.contains(word) && !SENSORS.contains(word);
        }

        String name(Map<Integer, String> where) {
            String word = peek();
            if (!isName(word)) {
                throw new Fault(at);
            }
            where.put(at, word);
            return next();
        }

        List<State> parse() {
            List<State> states = new ArrayList<>();
            do {
                if (states.size() == 8) {
                    peek();
                    throw new Fault(at);
                }
                states.add(state());
            } while (!peek().isEmpty());
            judge();
            return states;
        }

        void judge() {
            TreeMap<Integer, String> all = new TreeMap<>(goNames);
            all.putAll(stateNames);
            Set<String> known = new HashSet<>(stateNames.values());
            Set<String> seen = new HashSet<>();
            for (Map.Entry<Integer, String> e : all.entrySet()) {
                boolean isState = stateNames.containsKey(e.getKey());
                if (isState && !seen.add(e.getValue()) || !isState && !known.contains(e.getValue())) {
                    throw new Fault(e.getKey());
                }
            }
        }

        State state() {
            must("state");
            String name = name(stateNames);
            must("{");
            List<Rule> rules = new ArrayList<>();
            while (peek().equals("when")) {
                if (rules.size() == 12) {
                    throw new Fault(at);
                }
                rules.add(rule());
            }
            must("}");
            return new State(name, rules);
        }

        Rule rule() {
            must("when");
            List<Test> tests = new ArrayList<>();
            tests.add(test());
            while (peek().equals("and")) {
                next();
                tests.add(test());
            }
            must("{");
            List<Act> acts = new ArrayList<>();
            while (!peek().equals("}")) {
                if (acts.size() == 8) {
                    throw new Fault(at);
                }
                acts.add(act());
            }
            must("}");
            return new Rule(tests, acts);
        }

        Test test() {
            List<Part> left = sum();
            String sign = peek();
            if (!sign.equals("<") && !sign.equals("=") && !sign.equals(">")) {
                throw new Fault(at);
            }
            next();
            return new Test(left, sign, sum());
        }

        Act act() {
            String kind = peek();
            int sums;
            switch (kind) {
                case "go": case "stay": sums = 0; break;
                case "set": sums = 1; break;
                case "move": case "to": sums = 2; break;
                case "kick": sums = 3; break;
                default: throw new Fault(at);
            }
            next();
            String target = "";
            if (kind.equals("go")) {
                target = name(goNames);
            }
            if (kind.equals("set")) {
                target = peek();
                if (!OWN.contains(target)) {
                    throw new Fault(at);
                }
                next();
            }
            List<List<Part>> all = new ArrayList<>();
            for (int i = 0; i < sums; i++) {
                all.add(sum());
            }
            must(";");
            return new Act(kind, target, all);
        }

        List<Part> sum() {
            List<Part> parts = new ArrayList<>();
            parts.add(new Part("+", term()));
            while (peek().equals("+") || peek().equals("-") || peek().equals("*")) {
                String join = next();
                if (parts.size() == 12) {
                    peek();
                    throw new Fault(at);
                }
                parts.add(new Part(join, term()));
            }
            return parts;
        }

        Term term() {
            int minuses = 0;
            while (peek().equals("-")) {
                if (minuses == 6) {
                    throw new Fault(at);
                }
                next();
                minuses++;
            }
            String word = peek();
            if (isNumber(word)) {
                next();
                return new Term(minuses, "", Integer.parseInt(word));
            }
            if (OWN.contains(word) || SENSORS.contains(word)) {
                next();
                return new Term(minuses, word, 0);
            }
            if (word.equals("matex") || word.equals("matey") || word.equals("foex") || word.equals("foey")) {
                next();
                String figure = peek();
                if (!isNumber(figure) || Integer.parseInt(figure) > 4) {
                    throw new Fault(at);
                }
                next();
                return new Term(minuses, word, Integer.parseInt(figure));
            }
            throw new Fault(at);
        }
    }

    // ---- a match

    static final class Machine {
        int number;
        boolean isAway;
        int x, y, startX, startY, program, late, lost;
        String state;
        boolean stopped;
        Map<String, Integer> own = new LinkedHashMap<>();
        int viewX, viewY;
        String command = "stay";
        int commandX, commandY, commandP;

        Machine like() {
            Machine m = new Machine();
            m.number = number;
            m.isAway = isAway;
            m.x = x;
            m.y = y;
            m.startX = startX;
            m.startY = startY;
            m.program = program;
            m.late = late;
            m.lost = lost;
            m.state = state;
            m.stopped = stopped;
            m.own = new LinkedHashMap<>(own);
            m.viewX = viewX;
            m.viewY = viewY;
            m.command = command;
            return m;
        }

        int turnX(int column) {
            return isAway ? 14 - column : column;
        }

        int turnY(int row) {
            return isAway ? 8 - row : row;
        }
    }

    final class Game {
        int home, away, tick = 0, kickTick = 0;
        Machine[] machines = new Machine[10];
        int ballX, ballY, power, wayX, wayY, gotAt;
        Machine holder;
        List<int[]> trail = new ArrayList<>();
        List<int[]> ends = new ArrayList<>();
        List<Integer> goals = new ArrayList<>();
        int[] laws = new int[4];
        int[] points = new int[2];
        int tackles, overruns;

        Game(int home, int away) {
            this.home = home;
            this.away = away;
            for (int r = 0; r < 10; r++) {
                machines[r] = new Machine();
                machines[r].number = r % 5;
                machines[r].isAway = r > 4;
            }
            kickOff();
        }

        Game(Game g) {
            home = g.home;
            away = g.away;
            tick = g.tick;
            kickTick = g.kickTick;
            for (int r = 0; r < 10; r++) {
                machines[r] = g.machines[r].like();
                if (g.holder == g.machines[r]) {
                    holder = machines[r];
                }
            }
            ballX = g.ballX;
            ballY = g.ballY;
            power = g.power;
            wayX = g.wayX;
            wayY = g.wayY;
            gotAt = g.gotAt;
            trail = new ArrayList<>(g.trail);
            ends = new ArrayList<>(g.ends);
            goals = new ArrayList<>(g.goals);
            laws = g.laws.clone();
            points = g.points.clone();
            tackles = g.tackles;
            overruns = g.overruns;
        }

        Machine in(int x, int y) {
            for (Machine m : machines) {
                if (m.x == x && m.y == y) {
                    return m;
                }
            }
            return null;
        }

        int[] freeNear(int x, int y) {
            for (int far = 0; far < 20; far++) {
                for (int c = x - far; c <= x + far; c++) {
                    for (int r = y - far; r <= y + far; r++) {
                        boolean onField = c >= 0 && c <= 14 && r >= 0 && r <= 8;
                        boolean isFar = Math.abs(c - x) == far || Math.abs(r - y) == far;
                        if (onField && isFar && in(c, r) == null) {
                            return new int[] {c, r};
                        }
                    }
                }
            }
            throw new IllegalStateException();
        }

        void putMachine(Machine m) {
            m.x = -99;
            int[] cell = freeNear(m.startX, m.startY);
            m.x = cell[0];
            m.y = cell[1];
            if (holder == m) {
                ballX = m.x;
                ballY = m.y;
            }
        }

        void putBall() {
            holder = null;
            power = 0;
            int[] cell = freeNear(7, 4);
            ballX = cell[0];
            ballY = cell[1];
            ends.clear();
        }

        void kickOff() {
            holder = null;
            for (Machine m : machines) {
                m.x = -99;
            }
            for (Machine m : machines) {
                Side team = sides[m.isAway ? away : home];
                m.program = team.program[m.number];
                m.startX = m.turnX(team.x[m.number]);
                m.startY = m.turnY(team.y[m.number]);
                m.late = team.late;
                m.lost = team.lost;
                m.state = m.program < 0 ? null : programs.get(m.program).get(0).name();
                m.stopped = false;
                for (String s : new String[] {"a", "b", "c", "d"}) {
                    m.own.put(s, 0);
                }
                putMachine(m);
            }
            putBall();
            for (Machine m : machines) {
                m.viewX = ballX;
                m.viewY = ballY;
            }
            kickTick = -1;
        }

        void get(Machine m) {
            holder = m;
            ballX = m.x;
            ballY = m.y;
            power = 0;
            gotAt = tick;
        }

        List<Machine> inOrder() {
            List<Machine> order = new ArrayList<>();
            for (int i = 0; i < 10; i++) {
                order.add(machines[tick % 2 == 0 ? i : 9 - i]);
            }
            return order;
        }

        int oneTick() {
            if (kickTick < 0) {
                kickTick = tick;
            }
            trail.add(new int[] {ballX, ballY});
            for (Machine m : inOrder()) {
                boolean isLost = m.lost > 0 && (tick + m.number) % m.lost == 0;
                if (!isLost) {
                    int[] seen = trail.get(Math.max(tick - m.late, kickTick));
                    m.viewX = seen[0];
                    m.viewY = seen[1];
                }
                m.command = "stay";
                if (!m.stopped && m.program >= 0) {
                    new Run(m).go();
                }
            }
            for (Machine m : inOrder()) {
                obey(m);
            }
            int scorer = roll();
            int law = law(scorer);
            if (law >= 0) {
                laws[law]++;
            }
            tick++;
            return law;
        }

        /** One run of a program. */
        final class Run {
            final Machine me;
            int steps = 0;

            Run(Machine me) {
                this.me = me;
            }

            void step() {
                steps++;
                if (steps == 81) {
                    throw new Overrun();
                }
            }

            void go() {
                String to = me.state;
                try {
                    for (State s : programs.get(me.program)) {
                        if (s.name().equals(me.state)) {
                            to = rules(s);
                            break;
                        }
                    }
                    me.state = to;
                } catch (Overrun e) {
                    me.command = "stay";
                    me.stopped = true;
                    overruns++;
                }
            }

            String rules(State s) {
                String to = s.name();
                for (Rule rule : s.rules()) {
                    boolean all = true;
                    for (Test t : rule.tests()) {
                        step();
                        int l = work(t.left());
                        int r = work(t.right());
                        boolean holds = t.sign().equals("<") ? l < r : t.sign().equals(">") ? l > r : l == r;
                        if (!holds) {
                            all = false;
                            break;
                        }
                    }
                    if (!all) {
                        continue;
                    }
                    for (Act act : rule.acts()) {
                        step();
                        List<Integer> values = new ArrayList<>();
                        for (List<Part> sum : act.sums()) {
                            values.add(work(sum));
                        }
                        switch (act.kind()) {
                            case "go":
                                to = act.target();
                                break;
                            case "set":
                                me.own.put(act.target(), values.get(0));
                                break;
                            default:
                                me.command = act.kind();
                                me.commandX = values.size() > 0 ? values.get(0) : 0;
                                me.commandY = values.size() > 1 ? values.get(1) : 0;
                                me.commandP = values.size() > 2 ? values.get(2) : 0;
                                return to;
                        }
                    }
                }
                return to;
            }

            int work(List<Part> sum) {
                List<Integer> products = new ArrayList<>();
                List<String> joins = new ArrayList<>();
                for (Part part : sum) {
                    int v = value(part.term());
                    if (part.join().equals("*")) {
                        int last = products.size() - 1;
                        products.set(last, products.get(last) * v);
                    } else {
                        products.add(v);
                        joins.add(part.join());
                    }
                }
                int total = products.get(0);
                for (int i = 1; i < products.size(); i++) {
                    total = joins.get(i).equals("+") ? total + products.get(i) : total - products.get(i);
                }
                return total;
            }

            int value(Term t) {
                step();
                int v = raw(t);
                return t.minuses() % 2 == 1 ? -v : v;
            }

            int raw(Term t) {
                int k = t.number();
                switch (t.word()) {
                    case "": return k;
                    case "a": case "b": case "c": case "d": return me.own.get(t.word());
                    case "ballx": return me.turnX(me.viewX);
                    case "bally": return me.turnY(me.viewY);
                    case "myx": return me.turnX(me.x);
                    case "myy": return me.turnY(me.y);
                    case "held": return holder == null ? 0 : holder == me ? 2 : holder.isAway == me.isAway ? 1 : -1;
                    case "tick": return tick;
                    case "lead": return me.isAway ? points[1] - points[0] : points[0] - points[1];
                    case "near": return Math.max(Math.abs(me.x - me.viewX), Math.abs(me.y - me.viewY));
                    case "matex": return me.turnX(machines[(me.isAway ? 5 : 0) + k].x);
                    case "matey": return me.turnY(machines[(me.isAway ? 5 : 0) + k].y);
                    case "foex": return me.turnX(machines[(me.isAway ? 0 : 5) + k].x);
                    case "foey": return me.turnY(machines[(me.isAway ? 0 : 5) + k].y);
                    default: throw new IllegalStateException(t.word());
                }
            }
        }

        void obey(Machine m) {
            if (m.command.equals("stay")) {
                return;
            }
            int dx = m.commandX;
            int dy = m.commandY;
            if (m.command.equals("to")) {
                dx -= m.turnX(m.x);
                dy -= m.turnY(m.y);
            }
            dx = Integer.signum(dx) * (m.isAway ? -1 : 1);
            dy = Integer.signum(dy) * (m.isAway ? -1 : 1);
            if (dx == 0 && dy == 0) {
                return;
            }
            if (m.command.equals("kick")) {
                if (holder == m) {
                    holder = null;
                    power = m.commandP < 1 ? 1 : m.commandP > 9 ? 9 : m.commandP;
                    wayX = dx;
                    wayY = dy;
                }
                return;
            }
            int x = m.x + dx;
            int y = m.y + dy;
            if (x < 0 || x > 14 || y < 0 || y > 8) {
                return;
            }
            Machine there = in(x, y);
            if (there == null) {
                m.x = x;
                m.y = y;
                if (holder == m) {
                    ballX = x;
                    ballY = y;
                } else if (holder == null && ballX == x && ballY == y) {
                    get(m);
                }
            } else if (there == holder && there.isAway != m.isAway && gotAt <= tick - 2) {
                get(m);
                tackles++;
            }
        }

        int roll() {
            for (int i = 0; i < 3; i++) {
                if (holder != null || power == 0) {
                    return -1;
                }
                power--;
                int x = ballX + wayX;
                int y = ballY + wayY;
                if ((x == -1 || x == 15) && y >= 3 && y <= 5) {
                    return x == 15 ? 0 : 1;
                }
                boolean stays = false;
                if (x == -1 || x == 15) {
                    wayX = -wayX;
                    stays = true;
                }
                if (y == -1 || y == 9) {
                    wayY = -wayY;
                    stays = true;
                }
                if (!stays) {
                    Machine m = in(x, y);
                    if (m != null) {
                        get(m);
                    } else {
                        ballX = x;
                        ballY = y;
                    }
                }
            }
            return -1;
        }

        int law(int scorer) {
            if (scorer >= 0) {
                points[scorer]++;
                goals.add(tick + 1000 * scorer);
                kickOff();
                return 0;
            }
            ends.add(holder == null ? new int[] {ballX, ballY} : new int[] {-1, -1});
            boolean sleeps = ends.size() >= 10 && holder == null;
            for (int i = 1; i <= 10 && sleeps; i++) {
                int[] end = ends.get(ends.size() - i);
                sleeps = end[0] == ballX && end[1] == ballY;
            }
            if (sleeps) {
                putBall();
                return 1;
            }
            if (holder != null && gotAt + 12 <= tick) {
                Machine best = null;
                for (Machine m : machines) {
                    if (m.isAway != holder.isAway && (best == null || far(m) < far(best))) {
                        best = m;
                    }
                }
                get(best);
                return 2;
            }
            for (boolean isAway : new boolean[] {false, true}) {
                List<Machine> crowd = new ArrayList<>();
                for (Machine m : machines) {
                    if (m.isAway == isAway && m.turnX(m.x) <= 2) {
                        crowd.add(m);
                    }
                }
                if (crowd.size() >= 4) {
                    putMachine(crowd.get(crowd.size() - 1));
                    return 3;
                }
            }
            return -1;
        }

        int far(Machine m) {
            return Math.max(Math.abs(m.x - holder.x), Math.abs(m.y - holder.y));
        }

        int ballTells(int what) {
            int rolls = holder == null && power > 0 ? 1 : 0;
            int who = -1;
            for (int r = 0; r < 10; r++) {
                if (machines[r] == holder) {
                    who = r;
                }
            }
            return new int[] {ballX, ballY, who, power * rolls, wayX * rolls, wayY * rolls}[what];
        }

        int stateNumber(Machine m) {
            if (m.program < 0) {
                return -1;
            }
            List<State> states = programs.get(m.program);
            for (int s = 0; s < states.size(); s++) {
                if (states.get(s).name().equals(m.state)) {
                    return s;
                }
            }
            throw new IllegalStateException();
        }

        int machineTells(int r, int what) {
            Machine m = machines[r];
            switch (what) {
                case 0: return m.x;
                case 1: return m.y;
                case 2: return stateNumber(m);
                case 3: return m.stopped ? 1 : 0;
                case 4: return m.own.get("a");
                case 5: return m.own.get("b");
                case 6: return m.own.get("c");
                case 7: return m.own.get("d");
                case 8: return m.viewX;
                case 9: return m.viewY;
                default: return m.command.equals("stay") ? 0 : m.command.equals("kick") ? 2 : 1;
            }
        }
    }

    // ---- the object

    static final class Side {
        int[] program = {-1, -1, -1, -1, -1};
        int[] x = {1, 3, 3, 5, 5};
        int[] y = {4, 2, 6, 3, 5};
        int late, lost;
    }

    final StringBuilder tape = new StringBuilder();
    final List<List<State>> programs = new ArrayList<>();
    final Side[] sides = {new Side(), new Side(), new Side(), new Side()};
    final List<Integer> waiting = new ArrayList<>();
    final Map<Integer, Integer> findings = new TreeMap<>();
    final Game[] places = new Game[2];
    final Map<Integer, int[]> table = new TreeMap<>();
    Game game;
    int faultPlace = -1;

    /** Does one call by its name; a finding is counted. */
    int call(String name, long... a) {
        try {
            int[] v = new int[a.length];
            for (int i = 0; i < a.length; i++) {
                v[i] = (int) a[i];
            }
            return answer(name, a, v);
        } catch (Finding f) {
            findings.merge(f.code, 1, Integer::sum);
            return f.code;
        }
    }

    void need(boolean good, int code) {
        if (!good) {
            throw new Finding(code);
        }
    }

    static boolean within(int v, int least, int most) {
        return v >= least && v <= most;
    }

    int answer(String name, long[] a, int[] v) {
        switch (name) {
            case "feed": return feed(a[0], v[1]);
            case "read": return read();
            case "fault": return faultPlace;
            case "program":
                need(within(v[0], 0, 3) && within(v[1], 0, 4) && within(v[2], -1, programs.size() - 1), -1001);
                sides[v[0]].program[v[1]] = v[2];
                return 1;
            case "start":
                need(within(v[0], 0, 3) && within(v[1], 0, 4) && within(v[2], 0, 6) && within(v[3], 0, 8), -1001);
                sides[v[0]].x[v[1]] = v[2];
                sides[v[0]].y[v[1]] = v[3];
                return 1;
            case "views":
                need(within(v[0], 0, 3) && within(v[1], 0, 3) && (v[2] == 0 || within(v[2], 2, 9)), -1001);
                sides[v[0]].late = v[1];
                sides[v[0]].lost = v[2];
                return 1;
            case "begin":
                need(within(v[0], 0, 3) && within(v[1], 0, 3), -1001);
                game = new Game(v[0], v[1]);
                return 1;
            case "league": return league(v[0], v[1]);
            case "table":
                need(within(v[0], 0, 3) && within(v[1], 0, 2), -1001);
                need(table.containsKey(v[0]), -1004);
                return table.get(v[0])[v[1]];
            case "order":
                need(v[0] >= 0, -1001);
                need(v[0] < table.size(), -1004);
                return order().get(v[0]);
            case "tell":
                need(waiting.size() < 20, -1002);
                waiting.add(v[0]);
                return waiting.size();
            case "count":
                need(within(v[0], 0, 4), -1001);
                int states = programs.isEmpty() ? 0 : programs.get(0).size();
                return new int[] {programs.size(), tape.length(), states, waiting.size(), game == null ? 0 : 1}[v[0]];
            case "found":
                need(within(v[0], -1005, -1001), -1001);
                return findings.getOrDefault(v[0], 0);
            default: return ofMatch(name, v);
        }
    }

    int ofMatch(String name, int[] v) {
        switch (name) {
            case "tick":
                need(game != null, -1003);
                need(within(v[0], 1, 50), -1001);
                int law = -1;
                for (int i = 0; i < v[0]; i++) {
                    law = game.oneTick();
                }
                return law;
            case "ball":
                need(game != null, -1003);
                need(within(v[0], 0, 5), -1001);
                return game.ballTells(v[0]);
            case "robot":
                need(game != null, -1003);
                need(within(v[0], 0, 9) && within(v[1], 0, 10), -1001);
                return game.machineTells(v[0], v[1]);
            case "score":
                need(game != null, -1003);
                need(within(v[0], 0, 8), -1001);
                return new int[] {game.tick, game.points[0], game.points[1], game.laws[0], game.laws[1], game.laws[2],
                    game.laws[3], game.tackles, game.overruns}[v[0]];
            case "goal":
                need(game != null, -1003);
                need(within(v[0], 0, Math.min(20, game.goals.size()) - 1), -1004);
                return game.goals.get(v[0]);
            case "keep":
                need(within(v[0], 0, 1), -1001);
                need(game != null, -1003);
                places[v[0]] = new Game(game);
                return 1;
            case "back":
                need(within(v[0], 0, 1), -1001);
                need(places[v[0]] != null, -1004);
                game = new Game(places[v[0]]);
                return game.tick;
            case "differ":
                need(within(v[0], 0, 1), -1001);
                need(game != null, -1003);
                need(places[v[0]] != null, -1004);
                return differ(game, places[v[0]]);
            case "check": return check();
            default: throw new IllegalStateException(name);
        }
    }

    int feed(long eight, int n) {
        need(within(n, 1, 8), -1001);
        need(tape.length() + n <= 800, -1002);
        long rest = eight;
        for (int i = 0; i < n; i++) {
            tape.append((char) (rest & 0xff));
            rest >>= 8;
        }
        return tape.length();
    }

    int read() {
        need(programs.size() < 6, -1002);
        String text = tape.toString();
        tape.setLength(0);
        try {
            faultPlace = -1;
            programs.add(new Parser(text).parse());
            return programs.size() - 1;
        } catch (Fault f) {
            faultPlace = f.place;
            throw new Finding(-1005);
        }
    }

    int differ(Game g, Game h) {
        for (int x = 0; x < 15; x++) {
            for (int y = 0; y < 9; y++) {
                if (who(g, x, y) != who(h, x, y)) {
                    return x + 15 * y;
                }
            }
        }
        for (int what = 0; what < 6; what++) {
            if (g.ballTells(what) != h.ballTells(what)) {
                return 1000;
            }
        }
        for (int r = 0; r < 10; r++) {
            for (int what = 2; what < 8; what++) {
                if (g.machineTells(r, what) != h.machineTells(r, what)) {
                    return 1000;
                }
            }
        }
        return 2000;
    }

    static int who(Game g, int x, int y) {
        for (int r = 0; r < 10; r++) {
            if (g.machines[r].x == x && g.machines[r].y == y) {
                return r;
            }
        }
        return -1;
    }

    int league(int set, int n) {
        List<Integer> in = new ArrayList<>();
        for (int t = 0; t < 32; t++) {
            if ((set >>> t & 1) == 1) {
                in.add(t);
            }
        }
        need(in.size() >= 2 && in.get(in.size() - 1) < 4 && within(n, 1, 60), -1001);
        table.clear();
        for (int t : in) {
            table.put(t, new int[3]);
        }
        int matches = 0;
        for (int h : in) {
            for (int w : in) {
                if (h < w) {
                    Game g = new Game(h, w);
                    for (int i = 0; i < n; i++) {
                        g.oneTick();
                    }
                    int[] a = table.get(h);
                    int[] b = table.get(w);
                    a[0] += g.points[0] > g.points[1] ? 3 : g.points[0] == g.points[1] ? 1 : 0;
                    b[0] += g.points[1] > g.points[0] ? 3 : g.points[0] == g.points[1] ? 1 : 0;
                    a[1] += g.points[0];
                    b[1] += g.points[1];
                    a[2] += g.points[1];
                    b[2] += g.points[0];
                    matches++;
                }
            }
        }
        return matches;
    }

    List<Integer> order() {
        List<Integer> all = new ArrayList<>(table.keySet());
        all.sort(Comparator.<Integer>comparingInt(t -> -table.get(t)[0])
            .thenComparingInt(t -> table.get(t)[2] - table.get(t)[1])
            .thenComparingInt(t -> -table.get(t)[1])
            .thenComparingInt(t -> t));
        return all;
    }

    int check() {
        List<Integer> said = new ArrayList<>(waiting);
        waiting.clear();
        need(game != null, -1003);
        List<Integer> due = game.goals.subList(0, Math.min(20, game.goals.size()));
        for (int i = 0; i < due.size(); i++) {
            if (i >= said.size() || !said.get(i).equals(due.get(i))) {
                return 1 + i;
            }
        }
        return said.size() > due.size() ? 99 : 0;
    }
}
