import java.util.Set;

/** Of promise 3 and 4: the bytes and WORDS of a text, and which WORD can stand where. */
public final class WordsEdgeTest {
    private static final String[] KEYWORDS = {"state", "when", "and", "go", "set", "move", "to", "kick", "stay", "matex",
        "matey", "foex", "foey"};
    private static final String[] OWN = {"a", "b", "c", "d"};
    private static final String[] SENSORS = {"ballx", "bally", "myx", "myy", "held", "tick", "lead", "near"};
    private static final String[] ALL = {"state", "when", "and", "go", "set", "move", "to", "kick", "stay", "matex", "matey",
        "foex", "foey", "a", "b", "c", "d", "ballx", "bally", "myx", "myy", "held", "tick", "lead", "near", "s", "zz", "0", "4",
        "5", "999", "{", "}", "<", "=", ">", "+", "-", "*", ";"};

    public static void main(String[] args) {
        everyByteBehindAText();
        everyByteInAName();
        everyByteInANumber();
        blanks();
        longestWords();
        reservedWords();
        nearlyReserved();
        nameLength();
        numberSize();
        figures();
        everyWordEverywhere();
        endsTooSoon();
        sumGoesOn();
        firstFaultCounts();
        Due.end();
    }

    /** "the first byte that begins no word": blanks alone may stand behind a whole text. */
    private static void everyByteBehindAText() {
        for (int b = 0; b < 256; b++) {
            boolean isBlank = b == 32 || b == 10;
            Reads.fault("state s{}" + (char) b, isBlank ? Reads.GOOD : 9);
            Reads.fault((char) b + "state s{}", isBlank ? Reads.GOOD : 0);
        }
    }

    /** "a row of letters a .. z is a NAME" */
    private static void everyByteInAName() {
        for (int b = 0; b < 256; b++) {
            boolean isLetter = b >= 'a' && b <= 'z';
            boolean isBlank = b == 32 || b == 10;
            if (isLetter) {
                Reads.good("state q" + (char) b + "q{}");
                Reads.fault("state s{when 1=1{go q" + (char) b + "q;}}", 20);
            } else {
                Reads.fault("state q" + (char) b + "q{}", isBlank || b == '{' ? 8 : 7);
                Reads.fault("state q" + (char) b + "{}", isBlank ? Reads.GOOD : b == '{' ? 8 : 7);
            }
        }
    }

    /** "a row of figures is a NUMBER" */
    private static void everyByteInANumber() {
        for (int b = 0; b < 256; b++) {
            boolean isFigure = b >= '0' && b <= '9';
            boolean isBlank = b == 32 || b == 10;
            boolean isJoin = b == '+' || b == '-' || b == '*';
            String text = "state s{when 1=1{set a 1" + (char) b + "2;}}";
            if (isFigure) {
                Reads.sum("1" + (char) b + "2", 102 + 10 * (b - '0'));
            } else if (isJoin) {
                Reads.sum("1" + (char) b + "2", b == '+' ? 3 : b == '-' ? -1 : 2);
            } else {
                Reads.fault(text, isBlank || b == ';' ? 25 : 24);
            }
        }
    }

    /** "blanks (32, 10) between or not" */
    private static void blanks() {
        Reads.good("state s{when 1=1 and 1<2{set a 1;go s;move 1 2;stay;}}");
        Reads.good("state\ns{when1=1and1<2{set\na1;go\ns;move1 2;stay;}}");
        Reads.good("state s { when 1 = 1 and 1 < 2 { set a 1 ; go s ; move 1 2 ; stay ; } }");
        Reads.good(" \n\n state \n s\n\n{ \n}\n \n");
        Reads.good("state s{when matex4=foey0{kick1a2;}}");
        Reads.sum(" 1 + \n 2 ", 3);
    }

    /** "WORDS, the longest that there are" */
    private static void longestWords() {
        Reads.fault("states s{}", 0);
        Reads.fault("state s{when1 2=1{}}", 14);
        Reads.fault("state s{when 1 2=1{}}", 15);
        Reads.fault("state s{when ab=1{}}", 13);
        Reads.fault("state s{when aand=1{}}", 13);
        Reads.fault("state s{when 1=aand 1=1{}}", 15);
        Reads.fault("state s{when ballxx=1{}}", 13);
        Reads.fault("state s{when matexa=1{}}", 13);
        Reads.fault("state s{when 1=1{gos;}}", 17);
        Reads.fault("state s{when 1=1{seta 1;}}", 17);
        Reads.fault("state s{when 1=1{moveb 1;}}", 17);
        Reads.fault("state s{when 1<=1{}}", 15);
        Reads.fault("state s{when 1==1{}}", 15);
        Reads.good("state statestate{when 1=1{go statestate;}}");
        Reads.sum("12", 12);
        Reads.sum("012", 12);
    }

    /** KEYWORDS, NUMBERS OF ITS OWN and SENSORS are no NAMES. */
    private static void reservedWords() {
        for (String[] words : new String[][] {KEYWORDS, OWN, SENSORS}) {
            for (String word : words) {
                Reads.fault("state " + word + "{}", 6);
                Reads.fault("state s{when 1=1{go " + word + ";}}", 20);
            }
        }
    }

    /** One letter more or less makes a NAME of each of them. */
    private static void nearlyReserved() {
        Set<String> reserved = Set.of("a", "b", "c", "d", "");
        for (String[] words : new String[][] {KEYWORDS, OWN, SENSORS}) {
            for (String word : words) {
                String less = word.substring(0, word.length() - 1);
                for (String name : new String[] {word + "q", "q" + word, word + word, less}) {
                    if (!reserved.contains(name)) {
                        Reads.good("state " + name + "{when 1=1{go " + name + ";}}");
                    }
                }
            }
        }
        for (char letter = 'e'; letter <= 'z'; letter++) {
            Reads.good("state " + letter + "{when 1=1{go " + letter + ";}}");
        }
    }

    /** "a NAME (12 letters at most)"; FAULT: "a NAME that is too long itself", at "its first byte" */
    private static void nameLength() {
        Reads.good("state z{}");
        Reads.good("state zzzzzzzzzzz{}");
        Reads.good("state zzzzzzzzzzzz{}");
        Reads.fault("state zzzzzzzzzzzzz{}", 6);
        Reads.fault("state " + "z".repeat(780) + "{}", 6);
        Reads.good("state zzzzzzzzzzzz{when 1=1{go zzzzzzzzzzzz;}}");
        Reads.fault("state zzzzzzzzzzzz{when 1=1{go zzzzzzzzzzzzz;}}", 31);
        Reads.fault("state zzzzzzzzzzzz{when 1=1{go zzzzzzzzzzz;}}", 31);
        Reads.fault("statestatesta", 0);
        Reads.fault("state s{} zzzzzzzzzzzzz", 10);
        Reads.fault("state s{zzzzzzzzzzzzz", 8);
    }

    /** "a NUMBER (999 at most)"; FAULT: "a NUMBER that is too great itself", at "its first byte" */
    private static void numberSize() {
        Reads.sum("0", 0);
        Reads.sum("998", 998);
        Reads.sum("999", 999);
        Reads.fault("state s{when 1=1{set a 1000;}}", 23);
        Reads.fault("state s{when 1=1{set a 9990;}}", 23);
        Reads.fault("state s{when 1=1{set a 9999;}}", 23);
        Reads.fault("state s{when 1=1{set a -1000;}}", 24);
        Reads.fault("state s{when 1=1{set a 2147483648;}}", 23);
        Reads.fault("state s{when 1=1{set a 4294967297;}}", 23);
        Reads.fault("state s{when 1=1{set a 18446744073709551617;}}", 23);
        Reads.fault("state s{when 1=1{set a " + "9".repeat(700) + ";}}", 23);
        Reads.sum("0000000999", 999);
        Reads.sum("0".repeat(700), 0);
        Reads.fault("state s{when 1=1{set a 0001000;}}", 23);
    }

    /** "( matex | matey | foex | foey ) FIGURE (a NUMBER 0 .. 4)" */
    private static void figures() {
        for (String word : new String[] {"matex", "matey", "foex", "foey"}) {
            String ahead = "state s{when 1=1{set a " + word;
            for (int figure = 0; figure <= 4; figure++) {
                Reads.good(ahead + figure + ";}}");
                Reads.good(ahead + " " + figure + ";}}");
                Reads.good(ahead + " 000" + figure + ";}}");
            }
            for (String wrong : new String[] {"5", "6", "9", "10", "14", "40", "999", "1000", "-1", "-0", "a", "e", "foex 1", "tick",
                "+1", ";", "}"}) {
                Reads.faultBehind(ahead + " ", wrong + ";}}");
            }
            Reads.fault(ahead, ahead.length());
            Reads.fault(ahead + " ", ahead.length() + 1);
        }
        Reads.sum("matex 0", 1);
        Reads.sum("matex 004", 5);
        Reads.sum("foex 4", 9);
    }

    private static final Set<String> TERM = Set.of("matex", "matey", "foex", "foey", "a", "b", "c", "d", "ballx", "bally", "myx",
        "myy", "held", "tick", "lead", "near", "0", "4", "5", "999", "-");
    private static final Set<String> NAME = Set.of("s", "zz");
    private static final Set<String> ACT = Set.of("go", "set", "move", "to", "kick", "stay", "}");

    private static Set<String> termOr(String... more) {
        Set<String> all = new java.util.HashSet<>(TERM);
        all.addAll(Set.of(more));
        return all;
    }

    /** Every WORD behind such a beginning: those that can stand there leave the text unfinished, others are the FAULT. */
    private static void stands(String ahead, Set<String> words) {
        for (String word : ALL) {
            if (words.contains(word)) {
                Reads.fault(ahead + word, ahead.length() + word.length());
            } else {
                Reads.faultBehind(ahead, word);
                Reads.faultBehind(ahead, word + " state");
            }
        }
        Reads.faultBehind(ahead, "?");
        Reads.faultBehind(ahead, "1000");
        Reads.faultBehind(ahead, "zzzzzzzzzzzzz");
        Reads.faultBehind(ahead, "");
        Reads.faultBehind(ahead + " \n", "");
    }

    /** "word (its first byte; the length, if the text ends too soon) that can't stand there" */
    private static void everyWordEverywhere() {
        String rule = "state s { when ";
        String act = rule + "1 = 1 { ";
        stands("", Set.of("state"));
        stands("state ", NAME);
        stands("state s ", Set.of("{"));
        stands("state s { } state ", NAME);
        stands("state s { } state zz ", Set.of("{"));
        stands(rule, TERM);
        stands(rule + "- ", TERM);
        stands(rule + "1 + ", TERM);
        stands(rule + "1 - ", TERM);
        stands(rule + "1 * ", TERM);
        stands(rule + "matex ", Set.of("0", "4"));
        for (String sum : new String[] {"1 ", "a ", "tick ", "foey 4 ", "1 + 1 ", "1 - 1 ", "1 * 1 "}) {
            stands(rule + sum, Set.of("+", "-", "*", "<", "=", ">"));
            stands(rule + "-" + sum, Set.of("+", "-", "*", "<", "=", ">"));
            stands(rule + "1 < " + sum, Set.of("+", "-", "*", "and", "{"));
            stands(act + "set d " + sum, Set.of("+", "-", "*", ";"));
            stands(act + "move " + sum, termOr("+", "*"));
            stands(act + "move 1 " + sum, Set.of("+", "-", "*", ";"));
            stands(act + "to " + sum, termOr("+", "*"));
            stands(act + "to 1 " + sum, Set.of("+", "-", "*", ";"));
            stands(act + "kick " + sum, termOr("+", "*"));
            stands(act + "kick 1 " + sum, termOr("+", "*"));
            stands(act + "kick 1 1 " + sum, Set.of("+", "-", "*", ";"));
        }
        for (String sign : new String[] {"< ", "= ", "> "}) {
            stands(rule + "1 " + sign, TERM);
            stands(rule + "1 = 1 and 1 " + sign, TERM);
        }
        stands(rule + "1 = 1 and ", TERM);
        stands(rule + "1 = 1 and 1 ", Set.of("+", "-", "*", "<", "=", ">"));
        stands(rule + "1 = 1 and 1 = 1 ", Set.of("+", "-", "*", "and", "{"));
        stands(act, ACT);
        stands(act + "go ", NAME);
        stands(act + "go s ", Set.of(";"));
        stands(act + "set ", Set.of("a", "b", "c", "d"));
        for (String verb : new String[] {"set a ", "move ", "to ", "kick "}) {
            stands(act + verb, TERM);
        }
        stands(act + "stay ", Set.of(";"));
        for (String whole : new String[] {"go s ; ", "set a 1 ; ", "move 1 1 ; ", "to 1 1 ; ", "kick 1 1 1 ; ", "stay ; "}) {
            stands(act + whole, ACT);
        }
        insideAState("state s { ");
        insideAState(act + "} ");
        insideAState(act + "stay ; } ");
        insideAState("state zz { } state s { ");
    }

    /** Here } makes the text whole, so that it isn't unfinished. */
    private static void insideAState(String ahead) {
        for (String word : ALL) {
            if (word.equals("}")) {
                Reads.good(ahead + word);
                Reads.faultBehind(ahead + word + " ", word);
                Reads.fault(ahead + word + " state", ahead.length() + 7);
            } else if (word.equals("when")) {
                Reads.fault(ahead + word, ahead.length() + 4);
            } else {
                Reads.faultBehind(ahead, word);
            }
        }
        Reads.faultBehind(ahead, "");
        Reads.faultBehind(ahead, "?");
    }

    /** "the length, if the text ends too soon": a text that is cut behind each of its words, also with blanks there. */
    private static void endsTooSoon() {
        Reads.fault("", 0);
        Reads.fault(" ", 1);
        Reads.fault("\n \n", 3);
        Reads.fault(" ".repeat(799), 799);
        Reads.fault(" ".repeat(800), 800);
        String[] words = ("state zz { when - 1 + a * foex 3 < ballx and tick = 0 { set a 1 ; go zz ; move 1 2 ; to 1 2 ; kick 1 2 3 ; "
            + "stay ; } when 1 > 2 { } } state s { }").split(" ");
        StringBuilder ahead = new StringBuilder();
        for (int i = 0; i < words.length - 1; i++) {
            ahead.append(words[i]);
            boolean isWhole = words[i].equals("}") && words[i + 1].equals("state");
            Reads.fault(ahead.toString(), isWhole ? Reads.GOOD : ahead.length());
            ahead.append(" ");
            Reads.fault(ahead.toString(), isWhole ? Reads.GOOD : ahead.length());
        }
        Reads.good(ahead + "}");
    }

    /** "a SUM goes on as long as it can" */
    private static void sumGoesOn() {
        Reads.fault("state s{when 1=1{move 1 -1;}}", 26);
        Reads.fault("state s{when 1=1{kick 1 -1 5;}}", 28);
        Reads.good("state s{when 1=1{kick 1 -1 5 5;}}");
        Reads.good("state s{when 1=1{move -1 1;}}");
        Reads.good("state s{when 1=1{move a b;}}");
        Reads.good("state s{when 1=1{move 1a;}}");
        Reads.good("state s{when 1=1{to matex 1 2;}}");
        Reads.fault("state s{when 1=1{to matex 1;}}", 27);
    }

    /** "the first byte that begins no word, or word .. that can't stand there": whichever comes first. */
    private static void firstFaultCounts() {
        Reads.fault("state { ?", 6);
        Reads.fault("state ? {", 6);
        Reads.fault("state s{when 1=1{go ;}}zzzzzzzzzzzzz", 20);
        Reads.fault("state zzzzzzzzzzzzz{when 1=1{go ;}}", 6);
        Reads.fault("? state", 0);
        Reads.fault("state s{}1000", 9);
    }
}
