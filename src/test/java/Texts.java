import java.util.Random;

/** Makes texts for the tests that play many runs: good ones, ones at the limits, and ones with a fault. */
final class Texts {
    private static final String[] SENSORS = {"ballx", "bally", "myx", "myy", "held", "tick", "lead", "near"};
    private static final String[] OTHERS = {"matex", "matey", "foex", "foey"};
    private static final String[] NAMES = {"p", "q", "run", "x", "zz", "abcdefghijkl"};
    private static final String[] GOOD = {
        "state s{when held=2 and myx>8{kick 1 4-myy 9;}when held=2{to 14 4;}when 1=1{to ballx bally;}}",
        "state s{when held=2{kick 1 0 9;}when 1=1{to ballx bally;}}",
        "state s{when held=2{kick 1 1-tick*tick 7;}when near<4{to ballx bally;}when 0=0{to 6 bally;}}",
        "state s{when held=2{set a a+1;move 1 0;}when held=-1{to ballx bally;}when 1=1{to ballx bally;}}",
        "state s{when held=2{set b b+1;stay;}when 1=1{to ballx bally;}}",
        "state s{when 1=1{to 0 4;}}",
        "state s{when 1=1{to 1 tick;}}",
        "state s{when held=2{kick- 1 0 9;}when 1=1{to ballx bally;}}",
        "state s{when held=2{kick 0 1 5;}when held=1{to 1 matey 0;}when 1=1{to ballx bally;}}",
        "state p{when held=2{go q;move 1 0;}when 1=1{to ballx bally;}}state q{when held<2{go p;stay;}"
            + "when myx>10{kick 1 4-myy 6;}when 1=1{move 1 0;}}",
        "state p{when tick>20{set a 1*1*1*1*1*1*1*1*1*1*1*1;set b a+a+a+a+a+a+a+a+a+a+a+a;set c b*b*b*b*b*b*b*b;"
            + "set d c*c*c*c*c*c*c*c*c*c;set a 1+1+1+1+1+1+1+1+1+1;set b 2+2+2+2+2+2+2+2+2+2+2;"
            + "set c 1+1+1+1+1+1+1+1+1+1+1;to foex 3 foey 2;}when 1=1{set d d*31+tick;to ballx bally;}}",
    };

    private final Random random;
    private final StringBuilder out = new StringBuilder();

    Texts(Random random) {
        this.random = random;
    }

    String next() {
        int kind = random.nextInt(10);
        if (kind < 4) {
            return GOOD[random.nextInt(GOOD.length)];
        }
        String text = kind < 8 ? grown(kind == 7) : GOOD[random.nextInt(GOOD.length)];
        return kind >= 7 && random.nextInt(2) == 0 ? hurt(text) : text;
    }

    private String grown(boolean isWild) {
        out.setLength(0);
        int states = isWild ? random.nextInt(10) : 1 + random.nextInt(3);
        for (int s = 0; s < states; s++) {
            out.append("state ").append(isWild ? "s" + (char) ('a' + s) : NAMES[s]).append(blank()).append("{");
            int rules = isWild && s == 0 ? random.nextInt(14) : random.nextInt(4);
            for (int r = 0; r < rules; r++) {
                rule(isWild, states);
            }
            out.append("}").append(blank());
        }
        return out.length() > 800 ? out.substring(0, 800) : out.toString();
    }

    private String blank() {
        return random.nextInt(3) == 0 ? "\n" : random.nextInt(2) == 0 ? " " : "";
    }

    private void rule(boolean isWild, int states) {
        out.append("when ");
        test(isWild);
        while (random.nextInt(4) == 0) {
            out.append(" and ");
            test(isWild);
        }
        out.append("{");
        int acts = isWild && random.nextInt(5) == 0 ? random.nextInt(10) : random.nextInt(4);
        for (int a = 0; a < acts; a++) {
            act(isWild, states);
        }
        out.append("}");
    }

    private void test(boolean isWild) {
        if (random.nextInt(3) == 0) {
            out.append("1=1");
            return;
        }
        sum(isWild);
        out.append("<=>".charAt(random.nextInt(3)));
        sum(isWild);
    }

    private void act(boolean isWild, int states) {
        switch (random.nextInt(7)) {
            case 0:
                int s = random.nextInt(states + (random.nextInt(20) == 0 ? 1 : 0));
                out.append("go ").append(isWild ? "s" + (char) ('a' + s) : NAMES[Math.min(s, NAMES.length - 1)]);
                break;
            case 1:
            case 2:
                out.append("set ").append("abcd".charAt(random.nextInt(4))).append(" ");
                sum(isWild);
                break;
            case 3:
                out.append("move ");
                sum(isWild);
                out.append(" ");
                sum(isWild);
                break;
            case 4:
                out.append("to ballx").append(blank()).append(" bally");
                break;
            case 5:
                out.append("kick ");
                sum(isWild);
                out.append(" ");
                sum(isWild);
                out.append(" ");
                sum(isWild);
                break;
            default:
                out.append("stay");
        }
        out.append(";");
    }

    private void sum(boolean isWild) {
        int terms = random.nextInt(8) == 0 ? 1 + random.nextInt(isWild ? 13 : 12) : 1 + random.nextInt(3);
        for (int t = 0; t < terms; t++) {
            if (t > 0) {
                out.append("+-*".charAt(random.nextInt(3)));
            } else if (out.charAt(out.length() - 1) == ' ' && random.nextInt(2) == 0) {
                out.append(blank());
            }
            term(isWild);
        }
    }

    private void term(boolean isWild) {
        int minuses = random.nextInt(6) == 0 ? random.nextInt(isWild ? 8 : 7) : 0;
        for (int m = 0; m < minuses; m++) {
            out.append("-");
        }
        switch (random.nextInt(5)) {
            case 0:
                out.append("abcd".charAt(random.nextInt(4)));
                break;
            case 1:
            case 2:
                out.append(SENSORS[random.nextInt(SENSORS.length)]);
                break;
            case 3:
                out.append(OTHERS[random.nextInt(4)]).append(blank()).append(random.nextInt(isWild ? 6 : 5));
                break;
            default:
                out.append(random.nextInt(8) == 0 ? random.nextInt(isWild ? 1010 : 1000) : random.nextInt(12));
        }
    }

    /** One change at one place. */
    private String hurt(String text) {
        StringBuilder b = new StringBuilder(text);
        if (b.length() == 0) {
            return "}";
        }
        int place = random.nextInt(b.length());
        switch (random.nextInt(5)) {
            case 0:
                b.setLength(place);
                break;
            case 1:
                b.deleteCharAt(place);
                break;
            case 2:
                b.setCharAt(place, (char) random.nextInt(256));
                break;
            case 3:
                b.insert(place, "{}<=>+-*;a9 \n".charAt(random.nextInt(13)));
                break;
            default:
                String[] words = {" state ", " when ", " and ", " go ", " set ", " stay;", "1000", "0007", " longlonglonglong ", "- - -"};
                b.insert(place, words[random.nextInt(words.length)]);
        }
        return b.length() > 800 ? b.substring(0, 800) : b.toString();
    }
}
