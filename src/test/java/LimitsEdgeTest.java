/** Promises 2 to 4 and the limits of a text: the last that is allowed, the first that isn't, and where its FAULT is. */
public final class LimitsEdgeTest {
    private static final String RULE = "state s{when 1=1{";

    public static void main(String[] args) {
        tapeLength();
        feedCount();
        feedOrder();
        states();
        rules();
        acts();
        tests();
        termsOfATest();
        termsOfActs();
        densestTexts();
        termWords();
        signs();
        signsOfEachTerm();
        namesOfStates();
        namesOfGo();
        namesComeLast();
        programNumbers();
        readKeepsNothingOfABadText();
        bytesOfAnEarlierText();
        faultOfTheLatestRead();
        Due.end();
    }

    /** "at most 800"; feed's "FULL: there would be more than 800." */
    private static void tapeLength() {
        for (int n = 1; n <= 8; n++) {
            ToyPitch x = new ToyPitch();
            for (int i = 1; i <= 99; i++) {
                Due.due("feed", x.feed(0x2020202020202020L, 8), 8 * i);
            }
            Due.due("feed of 9 - n", x.feed(0x2020202020202020L, 9 - n), 801 - n);
            Due.due("feed to 801", x.feed(0x2020202020202020L, n), Due.FULL);
            Due.due("bytes as they were", x.count(1), 801 - n);
            if (n > 1) {
                Due.due("feed to 800", x.feed(0x2020202020202020L, n - 1), 800);
            }
            Due.due("feed to 801", x.feed(32, 1), Due.FULL);
            Due.due("feed to 808", x.feed(32, 8), Due.FULL);
            Due.due("bytes", x.count(1), 800);
            Due.due("found FULL", x.found(Due.FULL), 3);
            Due.due("read", x.read(), Due.TEXT);
            Due.due("fault", x.fault(), 800);
            Due.due("room again", x.feed(32, 8), 8);
        }
        Reads.good(" ".repeat(791) + "state s{}");
        Reads.good("state s{}" + " ".repeat(791));
        Reads.fault("state s{}" + " ".repeat(790) + "}", 799);
        for (String words : new String[] {"{", "}", "<", "=", ">", "+", "-", "*", ";", "1-", "a+"}) {
            Reads.fault(words.repeat(800 / words.length()), 0);
            Reads.fault("state s{" + words.repeat(792 / words.length()), words.equals("}") ? 9 : 8);
        }
    }

    /** "BEYOND: n isn't 1 .. 8." */
    private static void feedCount() {
        ToyPitch x = new ToyPitch();
        int due = 0;
        for (int n = 1; n <= 8; n++) {
            due += n;
            Due.due("feed n " + n, x.feed(-1, n), due);
        }
        for (int n : new int[] {0, 9, -1, -8, 16, 256, 257, Integer.MIN_VALUE, Integer.MIN_VALUE + 1, Integer.MAX_VALUE}) {
            Due.due("feed n " + n, x.feed(-1, n), Due.BEYOND);
            Due.due("bytes as they were", x.count(1), due);
        }
        Due.due("found BEYOND", x.found(Due.BEYOND), 10);
    }

    /** "The n lowest bytes of eight come to the tape, the lowest first" */
    private static void feedOrder() {
        long spaces = 0x2020202020202020L;
        for (int n = 1; n <= 8; n++) {
            for (int bad = 0; bad < 8; bad++) {
                ToyPitch x = new ToyPitch();
                x.feed(spaces ^ 0x80L << 8 * bad, n);
                Due.due("read", x.read(), Due.TEXT);
                Due.due("the byte " + bad + " of " + n, x.fault(), bad < n ? bad : n);
            }
        }
        ToyPitch x = new ToyPitch();
        x.feed(-1L, 8);
        x.read();
        Due.due("byte 255", x.fault(), 0);
        x.feed(0x2020202020202020L | Long.MIN_VALUE, 8);
        x.read();
        Due.due("the highest bit", x.fault(), 7);
    }

    private static String states(int many) {
        StringBuilder b = new StringBuilder();
        for (int i = 0; i < many; i++) {
            b.append("state z").append((char) ('a' + i)).append("{}");
        }
        return b.toString();
    }

    /** "one STATE or more (8 at most)" */
    private static void states() {
        Reads.fault("", 0);
        for (int many = 1; many <= 8; many++) {
            ToyPitch x = new ToyPitch();
            Due.due("read", Due.readText(x, states(many)), 0);
            Due.due("states", x.count(2), many);
        }
        Reads.fault(states(9), 80);
        Reads.fault(states(8) + " \nstate", 82);
        Reads.fault(states(8) + "state state", 80);
        Reads.fault(states(8) + "state zzzzzzzzzzzzz{}", 80);
        Reads.fault(states(8) + "}", 80);
        Reads.fault(states(8) + "?", 80);
        Reads.fault(states(7) + "state za{}state zx{}", 80);
    }

    private static String rules(int many) {
        return "when 1=1{}".repeat(many);
    }

    /** "RULE (none, or 12 at most in a state)" */
    private static void rules() {
        for (int many = 0; many <= 12; many++) {
            Reads.good("state s{" + rules(many) + "}");
        }
        Reads.fault("state s{" + rules(13) + "}", 128);
        Reads.fault("state s{" + rules(12) + "\n when", 130);
        Reads.fault("state s{" + rules(12) + "when when", 128);
        Reads.fault("state s{" + rules(12) + "and", 128);
        Reads.fault("state s{" + rules(12), 128);
        Reads.good("state s{" + rules(12) + "}state z{" + rules(12) + "}state y{" + rules(12) + "}");
        Reads.fault("state s{" + rules(1) + "}state z{" + rules(13) + "}", 147);
        ToyPitch x = new ToyPitch();
        Due.give(x, 0, 0, "state s{" + "when 1=2{}".repeat(11) + "when 1=1{set a 1;}}state z{when 1=1{set a 2;}}");
        x.begin(0, 1);
        x.tick(1);
        Due.due("the 12th rule is asked", x.robot(0, 4), 1);
    }

    /** "ACT (none, or 8 at most in a rule)"; FAULT: "an act's first word" */
    private static void acts() {
        for (int many = 0; many <= 8; many++) {
            Reads.good(RULE + "stay;".repeat(many) + "}}");
        }
        String[] kinds = {"go s;", "set a 1;", "move 1 1;", "to 1 1;", "kick 1 1 1;", "stay;"};
        for (String act : kinds) {
            Reads.good(RULE + act.repeat(8) + "}}");
            Reads.faultBehind(RULE + act.repeat(8), act + "}}");
            Reads.faultBehind(RULE + act.repeat(8) + " ", act.substring(0, 2));
            Reads.faultBehind(RULE + "stay;".repeat(8), act + "}}");
        }
        Reads.faultBehind(RULE + "stay;".repeat(8), "stay");
        Reads.faultBehind(RULE + "stay;".repeat(8), "");
        Reads.faultBehind(RULE + "stay;".repeat(8), "when");
        Reads.good(RULE + "stay;".repeat(8) + "}when 1=1{" + "stay;".repeat(8) + "}}");
        Reads.faultBehind(RULE + "stay;".repeat(8) + "}when 1=1{" + "stay;".repeat(8), "stay;}}");
        ToyPitch x = new ToyPitch();
        Due.give(x, 0, 0, RULE + "set a a+1;".repeat(8) + "}}");
        x.begin(0, 1);
        x.tick(1);
        Due.due("the 8th act is done", x.robot(0, 4), 8);
    }

    /** "and: any number of them" */
    private static void tests() {
        for (int many : new int[] {0, 1, 2, 11, 12, 13, 20, 24}) {
            ToyPitch x = new ToyPitch();
            Due.give(x, 0, 0, "state s{when 1=1" + " and 1=1".repeat(many) + "{set a 1;}}");
            x.begin(0, 1);
            x.tick(1);
            Due.due("steps of " + many, x.robot(0, 4), 1);
        }
        Reads.good("state s{when1=1" + "and1=1".repeat(130) + "{}}");
        Reads.fault("state s{when1=1" + "and1=1".repeat(130) + "and", 798);
    }

    private static String terms(int many, String join) {
        return ("1" + join).repeat(many - 1) + "1";
    }

    /** "a SUM at most 12 TERMS"; FAULT: "the 13th TERM's first word: its - if it has one" */
    private static void termsOfATest() {
        for (String join : new String[] {"+", "-", "*"}) {
            for (int many = 1; many <= 12; many++) {
                Reads.good("state s{when " + terms(many, join) + "=1{}}");
            }
            Reads.good("state s{when " + terms(12, join) + "=" + terms(12, join) + "and " + terms(12, join) + ">0{}}");
            String twelve = "state s{when " + terms(12, join);
            Reads.faultBehind(twelve + join, "1=1{}}");
            Reads.faultBehind(twelve + join, "-1=1{}}");
            Reads.faultBehind(twelve + join + " ", "-------1");
            Reads.faultBehind(twelve + join, "matex 1=1{}}");
            Reads.faultBehind(twelve + join, "=1{}}");
            Reads.faultBehind(twelve + join, "");
            Reads.faultBehind("state s{when 1=" + terms(12, join) + join, "1{}}");
            Reads.faultBehind("state s{when 1=1 and 1=" + terms(12, join) + join, "a{}}");
        }
        Reads.faultBehind("state s{when 1*1+1*1-1*1+1*1-1*1*1*1+", "a=1{}}");
        Reads.good("state s{when 1*1+1*1-1*1+1*1-1*1*1*1=1{}}");
    }

    private static void termsOfActs() {
        String most = terms(12, "*");
        Reads.good(RULE + "set a " + most + ";move " + most + " " + most + ";to " + most + " " + most + ";kick " + most + " "
            + most + " " + most + ";}}");
        Reads.faultBehind(RULE + "set a " + most + "*", "1;}}");
        Reads.faultBehind(RULE + "move " + most + "*", "1 1;}}");
        Reads.faultBehind(RULE + "move 1 " + most + "*", "1;}}");
        Reads.faultBehind(RULE + "to " + most + "*", "1 1;}}");
        Reads.faultBehind(RULE + "to 1 " + most + "*", "1;}}");
        Reads.faultBehind(RULE + "kick " + most + "*", "1 1 1;}}");
        Reads.faultBehind(RULE + "kick 1 " + most + "*", "1 1;}}");
        Reads.faultBehind(RULE + "kick 1 1 " + most + "*", "1;}}");
        Reads.sum("1+1+1+1+1+1+1+1+1+1+1+1", 12);
        Reads.sum("2*2*2*2*2*2*2*2*2*2*2*2", 4096);
        Reads.sum("1-1-1-1-1-1-1-1-1-1-1-1", -10);
    }

    /** "blanks .. between or not": no text of 800 bytes has more TERMS, or more SUMS, and its last ones are worked out. */
    private static void densestTexts() {
        String act = "to" + terms(12, "+") + terms(12, "+").replace('1', 'a') + ";";
        String full = "state s{when1=0{" + act.repeat(8) + "}when1=0{" + act.repeat(6) + "}";
        densest(full, act, 2, 3);
        densest("state s{" + ("when1=0{" + "to1a;".repeat(8) + "}").repeat(11), "to9a;", 2, 3);
        densest("state s{" + ("when1=0{" + "kick1a1;".repeat(8) + "}").repeat(9), "move1a;", 2, 4);
        densest("state s{when1=0" + "and1=1".repeat(120) + "{}", "to1 8;", 1, 5);
    }

    /** Behind one tick HOME's robot 0, at first at (1, 4), has done the last of all acts. */
    private static void densest(String text, String last, int column, int row) {
        String whole = text + "when1=1{" + last + "}}";
        whole += " ".repeat(800 - whole.length());
        Play p = new Play("dense " + last).give(0, 0, whole).begin(0, 1).tick(1, -1);
        p.at(0, column, row).robot(0, 10, 1).score(8, 0);
    }

    /** A TERM counts as one with its FIGURE and its signs. */
    private static void termWords() {
        for (String term : new String[] {"a", "tick", "matex 1", "foey 4", "- - 7", "------1"}) {
            String twelve = (term + "+").repeat(11) + term;
            Reads.good(RULE + "set a " + twelve + ";}}");
            Reads.faultBehind(RULE + "set a " + twelve + "+", term + ";}}");
        }
    }

    /** "A TERM has at most 6 signs - ahead of it"; FAULT: "the 7th -" */
    private static void signs() {
        for (int many = 0; many <= 6; many++) {
            Reads.sum("-".repeat(many) + "7", many % 2 == 0 ? 7 : -7);
            Reads.sum("- ".repeat(many) + "bally", many % 2 == 0 ? 4 : -4);
            Reads.sum("5-" + "-".repeat(many) + "7", many % 2 == 0 ? -2 : 12);
            Reads.sum("5*" + "-".repeat(many) + "7", many % 2 == 0 ? 35 : -35);
        }
        for (int many = 7; many < 20; many++) {
            String more = "-".repeat(many - 6);
            Reads.faultBehind(RULE + "set a ------", more + "1;}}");
            Reads.faultBehind(RULE + "set a 1+------", more + "1;}}");
            Reads.faultBehind(RULE + "set a 1-------", more + "1;}}");
            Reads.faultBehind(RULE + "set a - - - - - - ", more + "1;}}");
        }
        Reads.faultBehind(RULE + "set a ------", "-");
        Reads.faultBehind(RULE + "set a ------", "+1;}}");
        Reads.faultBehind(RULE + "set a ------", "");
    }

    private static void signsOfEachTerm() {
        String twelve = "------1" + "+------1".repeat(11);
        Reads.sum(twelve, 12);
        Reads.good("state s{when " + twelve + "=" + twelve + "{kick " + twelve + " 1 " + twelve.substring(6) + ";}}");
        Reads.faultBehind("state s{when " + twelve + "=------1+------", "-1{}}");
    }

    /** "the first NAME, of a state that an earlier one has" */
    private static void namesOfStates() {
        Reads.fault("state s{}state s{}", 15);
        Reads.fault("state s{}state z{}state s{}", 24);
        Reads.fault("state s{}state z{}state z{}state s{}", 24);
        Reads.fault("state s{}state s{}state s{}", 15);
        Reads.good("state s{}state ss{}state sss{}state z{}");
        Reads.fault(states(7) + "state za{}", 76);
        Reads.fault(states(7) + "state zg{}", 76);
        Reads.good("state abcdefghijkl{}state abcdefghijkm{}state bbcdefghijkl{}state abcdefghijk{}");
        Reads.fault("state abcdefghijkl{}state abcdefghijkl{}", 26);
        Reads.good("state zzzzzzzzzzzz{}state zzzzzzzzzzzy{}state yzzzzzzzzzzz{}");
    }

    /** "or of go that no state has (in order of the text)" */
    private static void namesOfGo() {
        Reads.good("state s{when 1=1{go s;}}");
        Reads.good("state s{when 1=1{go z;}}state z{}");
        Reads.good("state z{}state s{when 1=1{go z;}}");
        Reads.fault("state s{when 1=1{go z;}}", 20);
        Reads.fault("state s{when 1=1{go s;go z;go y;}}", 25);
        Reads.fault("state s{when 1=1{go ss;}}", 20);
        Reads.fault("state ss{when 1=1{go s;}}", 21);
        Reads.fault("state s{when 1=1{go z;}}state s{}", 20);
        Reads.fault("state s{}state s{when 1=1{go z;}}", 15);
        Reads.fault("state s{when 1=1{go y;}}state y{when 1=1{go z;}}state s{}", 44);
        Reads.fault("state s{when 1=1{go y;}}state y{when 1=1{go s;}}state s{when 1=1{go z;}}", 54);
        Reads.fault("state s{when 1=1{stay;}when 1=1{stay;go z;}}", 40);
        Reads.fault("state abcdefghijkl{when 1=1{go abcdefghijkm;}}", 31);
    }

    /** "if there is none": a NAME is asked for behind all else. */
    private static void namesComeLast() {
        Reads.fault("state s{}state s{}}", 18);
        Reads.fault("state s{when 1=1{go z;}}state", 29);
        Reads.fault("state s{when 1=1{go z;}}?", 24);
        Reads.fault("state s{when 1=1{go z;}}state y{when 1=1000{}}", 39);
        Reads.fault("state s{when 1=1{go z;}}" + states(8), 94);
        Reads.fault("state s{}state s{" + rules(13) + "}", 137);
    }

    /** read's "a new program: its number", "FULL: there are 6 (the tape stays)" */
    private static void programNumbers() {
        ToyPitch x = new ToyPitch();
        for (int i = 0; i < 6; i++) {
            Due.due("bad read", Due.readText(x, "state"), Due.TEXT);
            Due.due("programs", x.count(0), i);
            Due.due("read", Due.readText(x, states(i + 1)), i);
            Due.due("programs", x.count(0), i + 1);
            Due.due("program of this number", x.program(0, 0, i), 1);
            Due.due("program of the next", x.program(0, 0, i + 1), Due.BEYOND);
        }
        for (String text : new String[] {"state s{}", "?"}) {
            int bytes = Due.feedText(x, text);
            Due.due("read of a 7th", x.read(), Due.FULL);
            Due.due("the tape stays", x.count(1), bytes);
            Due.due("fault", x.fault(), -1);
            Due.due("programs", x.count(0), 6);
        }
        Due.due("states of program 0", x.count(2), 1);
        Due.due("found TEXT", x.found(Due.TEXT), 6);
        Due.due("found FULL", x.found(Due.FULL), 2);
    }

    /** A text with a FAULT leaves nothing that the next program could show. */
    private static void readKeepsNothingOfABadText() {
        ToyPitch x = new ToyPitch();
        String bad = "state y{when 1+1+1+1=4 and 1=1{set a 9;set a 8;}when 1=1{set b 7+7;}}state z{when 1=1{set b 9;}}state y{}";
        Due.due("bad read", Due.readText(x, bad), Due.TEXT);
        Due.due("no program 0", x.count(2), 0);
        Due.due("read", Due.readText(x, "state s{when 1=1{go z;}}state z{when 2-1=1*1{set c c+7;}when 1=1{set d 5;}}"), 0);
        Due.due("states", x.count(2), 2);
        Due.due("bad read", Due.readText(x, states(8) + "state"), Due.TEXT);
        Due.due("states", x.count(2), 2);
        x.program(0, 0, 0);
        x.begin(0, 1);
        int[][] due = {{0, 0, 0, 0}, {0, 0, 7, 5}, {0, 0, 14, 5}};
        for (int tick = 0; tick < 3; tick++) {
            x.tick(1);
            for (int i = 0; i < 4; i++) {
                Due.due("own number " + i + " behind tick " + tick, x.robot(0, 4 + i), due[tick][i]);
            }
        }
        Due.due("no STEPS of the bad text", x.score(8), 0);
    }

    /** "The tape (empty then)": what stood behind a text's end in an earlier, longer one is no part of it. */
    private static void bytesOfAnEarlierText() {
        String[] texts = {"", "state", "state s", "state zzzzzzzzzzzz", "state s{when", "state s{when 99", "state s{when 999",
            "state s{when a", "state s{when matex 4", "state s{when 1=1{stay", "state s{}", "state s{} "};
        for (String earlier : new String[] {"z", "9", "a", "0", "}", "{", "-", ";", " ", "?"}) {
            for (String text : texts) {
                ToyPitch x = new ToyPitch();
                Due.due("read", Due.readText(x, earlier.repeat(40)), Due.TEXT);
                boolean isWhole = text.contains("}");
                Due.due(text + " behind " + earlier, Due.readText(x, text), isWhole ? 0 : Due.TEXT);
                Due.due("its fault", x.fault(), isWhole ? -1 : text.length());
            }
        }
    }

    /** "Where the latest read()'s FAULT was; -1 if it had none." */
    private static void faultOfTheLatestRead() {
        ToyPitch x = new ToyPitch();
        Due.due("ahead of any", x.fault(), -1);
        Due.due("read of an empty tape", x.read(), Due.TEXT);
        Due.due("fault", x.fault(), 0);
        Due.feedText(x, "state s{}}");
        Due.due("feed changes nothing", x.fault(), 0);
        Due.due("read", x.read(), Due.TEXT);
        Due.due("fault", x.fault(), 9);
        Due.due("asked again", x.fault(), 9);
        Due.due("read", Due.readText(x, "state s{}"), 0);
        Due.due("fault", x.fault(), -1);
        Due.due("read of an empty tape", x.read(), Due.TEXT);
        Due.due("fault", x.fault(), 0);
        Due.due("found TEXT", x.found(Due.TEXT), 3);
        Due.due("fault is no finding", x.found(Due.NONE) + x.found(Due.STATE) + x.found(Due.BEYOND), 0);
    }
}
