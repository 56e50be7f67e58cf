/** Promises 1 to 4: a new object, feed, read, fault; the words, rules, limits and FAULTS of texts. */
public final class TextsTest {
    public static void main(String[] args) {
        newObject();
        feed();
        bytesInOrder();
        goodTexts();
        wordsThatCantStand();
        badWords();
        limits();
        names();
        readAndFault();
        Due.end();
    }

    private static void newObject() {
        ToyPitch x = new ToyPitch();
        for (int what = 0; what < 5; what++) {
            Due.due("new: count " + what, x.count(what), 0);
        }
        Due.due("new: fault", x.fault(), -1);
        for (int finding = -1005; finding <= -1001; finding++) {
            Due.due("new: found " + finding, x.found(finding), 0);
        }
        Due.due("new: score", x.score(0), Due.STATE);
        Due.due("new: back", x.back(0), Due.NONE);
        Due.due("new: table", x.table(0, 0), Due.NONE);
        Due.due("new: order", x.order(0), Due.NONE);
        Due.due("new: program 0", x.program(0, 0, 0), Due.BEYOND);
    }

    private static void feed() {
        ToyPitch x = new ToyPitch();
        Due.due("feed n 0", x.feed(0, 0), Due.BEYOND);
        Due.due("feed n 9", x.feed(0, 9), Due.BEYOND);
        Due.due("feed n least", x.feed(0, Integer.MIN_VALUE), Due.BEYOND);
        Due.due("feed n most", x.feed(0, Integer.MAX_VALUE), Due.BEYOND);
        Due.due("feed 1", x.feed(-1, 1), 1);
        for (int i = 1; i <= 99; i++) {
            Due.due("feed 8", x.feed(-1, 8), 1 + 8 * i);
        }
        Due.due("feed to 801", x.feed(-1, 8), Due.FULL);
        Due.due("feed to 801 by 9", x.feed(-1, 9), Due.BEYOND);
        Due.due("count stays", x.count(1), 793);
        Due.due("feed to 800", x.feed(-1, 7), 800);
        Due.due("feed one more", x.feed(-1, 1), Due.FULL);
        Due.due("found FULL", x.found(Due.FULL), 2);
        Due.due("found BEYOND", x.found(Due.BEYOND), 5);
    }

    private static void bytesInOrder() {
        ToyPitch x = new ToyPitch();
        long tail = (long) '}' | (long) '{' << 8;
        Due.due("feed state", x.feed(0x6574617473L | 0x7a7a7aL << 40, 5), 5);
        Due.due("feed blank, x, open", x.feed(' ' | 'x' << 8 | '{' << 16 | (long) 'q' << 24, 3), 8);
        Due.due("feed close", x.feed(tail, 1), 9);
        Due.due("read", x.read(), 0);
        Due.due("count", x.count(1), 0);
    }

    /** A fresh object reads one text; -1 is no fault. */
    private static void fault(String text, int place) {
        ToyPitch x = new ToyPitch();
        Due.feedText(x, text);
        Due.due("read of " + text, x.read(), place < 0 ? 0 : Due.TEXT);
        Due.due("fault of " + text, x.fault(), place);
        Due.due("tape behind " + text, x.count(1), 0);
        Due.due("programs behind " + text, x.count(0), place < 0 ? 1 : 0);
        Due.due("found TEXT behind " + text, x.found(Due.TEXT), place < 0 ? 0 : 1);
    }

    private static void goodTexts() {
        fault("state x{}", -1);
        fault("\n state\nx \n{ } \n", -1);
        fault("state x{when1=1{}}", -1);
        fault("state x{when 1<2 and 1=1 and a>b and 1=1 and 1=1 and 1=1 and 1=1{}}", -1);
        fault("state x{when matex4=matey 0+foex 1*foey003{move1a;kick1b2;to myx-1myy;set a-1;stay;go x;}}", -1);
        fault("state x{when ballx=bally and myx=myy and held=tick and lead=near{go y;}}state y{when 1=1{go x;}}", -1);
        fault("state x{when 1=1{move 1 -1 2;}}", -1);
        fault("state states{}state wheny{}state aa{}state matexx{}", -1);
        fault("state x{when ------1=- -- - - -a{}}", -1);
        fault("state x{when 1-------1=1{}}", -1);
    }

    private static void wordsThatCantStand() {
        fault("", 0);
        fault("  \n", 3);
        fault("x", 0);
        fault("statex{}", 0);
        fault("state", 5);
        fault("state ", 6);
        fault("state when{}", 6);
        fault("state a{}", 6);
        fault("state held{}", 6);
        fault("state 1{}", 6);
        fault("state x", 7);
        fault("state x{", 8);
        fault("state x{stay;}", 8);
        fault("state x{}x", 9);
        fault("state x{}}", 9);
        fault("state x{when}", 12);
        fault("state x{when 1}", 14);
        fault("state x{when 1=}", 15);
        fault("state x{when 1=1}", 16);
        fault("state x{when 1=1=1{}}", 16);
        fault("state x{when 1=1 and{}}", 20);
        fault("state x{when x=1{}}", 13);
        fault("state x{when matex=1{}}", 18);
        fault("state x{when matex 5=1{}}", 19);
        fault("state x{when matex-1=1{}}", 18);
        fault("state x{when foey x=1{}}", 18);
        fault("state x{when foey 1000=1{}}", 18);
        fault("state x{when 1*+1=1{}}", 15);
        fault("state x{when 1=1{go;}}", 19);
        fault("state x{when 1=1{go a;}}", 20);
        fault("state x{when 1=1{go x}}", 21);
        fault("state x{when 1=1{set e 1;}}", 21);
        fault("state x{when 1=1{set 1 1;}}", 21);
        fault("state x{when 1=1{set a;}}", 22);
        fault("state x{when 1=1{move 1 -1;}}", 26);
        fault("state x{when 1=1{move 1;}}", 23);
        fault("state x{when 1=1{to 1 2 3;}}", 24);
        fault("state x{when 1=1{kick 1 2;}}", 25);
        fault("state x{when 1=1{stay}}", 21);
        fault("state x{when 1=1{when}}", 17);
        fault("state x{when 1=1{}", 18);
        fault("state x{when 1=1{}  ", 20);
    }

    private static void badWords() {
        fault("State x{}", 0);
        fault("state\tx{}", 5);
        fault("state x" + (char) 0 + "{}", 7);
        fault("state x{" + (char) 255 + "}", 8);
        fault("state x{}" + (char) 13, 9);
        fault("state x{when(1)=1{}}", 12);
        fault("}?", 0);
        fault("state abcdefghijklm{}", 6);
        fault("abcdefghijklm?", 0);
        fault("state x{when 1000=1{}}", 13);
        fault("state x{when 99999999999999999999=1{}}", 13);
        fault("state x{when 4294967296=1{}}", 13);
        fault("state x{when 000999=1{}}", -1);
        fault("state x{when 999=1{}}", -1);
        fault("state abcdefghijkl{}", -1);
    }

    private static String states(int many) {
        StringBuilder b = new StringBuilder();
        for (int i = 0; i < many; i++) {
            b.append("state x").append((char) ('a' + i)).append("{}");
        }
        return b.toString();
    }

    private static void limits() {
        String one = "when 1=1{}";
        fault(states(8), -1);
        fault(states(9), 80);
        fault(states(8) + " x", 81);
        fault("state x{" + one.repeat(12) + "}", -1);
        fault("state x{" + one.repeat(13) + "}", 128);
        fault("state x{" + one.repeat(12) + "}state y{" + one.repeat(12) + "}", -1);
        fault("state x{when 1=1{" + "stay;".repeat(8) + "}}", -1);
        fault("state x{when 1=1{" + "stay;".repeat(9) + "}}", 57);
        fault("state x{when 1=1{" + "stay;".repeat(8) + "}when 1=1{" + "stay;".repeat(8) + "}}", -1);
        fault("state x{when " + "1+".repeat(11) + "1=1{}}", -1);
        fault("state x{when " + "1*".repeat(12) + "1=1{}}", 37);
        fault("state x{when " + "1*".repeat(12) + "-1=1{}}", 37);
        fault("state x{when " + "1-".repeat(12) + "=1{}}", 37);
        fault("state x{when " + "1-".repeat(12), 37);
        fault("state x{when 1=" + "1-".repeat(11) + "1and 1=" + "1*".repeat(11) + "1{}}", -1);
        fault("state x{when -------1=1{}}", 19);
        fault("state x{when 1--------1=1{}}", 21);
        fault("state x{when " + "1=1 and ".repeat(90) + "1=1{}}", -1);
    }

    private static void names() {
        fault("state x{}state x{}", 15);
        fault("state x{when 1=1{go y;}}state x{}", 20);
        fault("state x{}state x{when 1=1{go y;}}", 15);
        fault("state x{when 1=1{go y;}}state y{}state y{}", 39);
        fault("state x{when 1=1{go xx;}}", 20);
        fault("state x{when 1=1{go y;}}state y{}state z{when 1=1{go x;go w;}}", 58);
        fault("state x{}state x{}?", 18);
        fault("state abcdefghijkl{}state abcdefghijkm{when 1=1{go abcdefghijkl;}}", -1);
    }

    private static void readAndFault() {
        ToyPitch x = new ToyPitch();
        Due.due("bad read", Due.readText(x, "state?"), Due.TEXT);
        Due.due("fault", x.fault(), 5);
        for (int i = 0; i < 6; i++) {
            Due.due("read", Due.readText(x, states(i + 1)), i);
            Due.due("fault of a good one", x.fault(), -1);
        }
        Due.feedText(x, "state");
        Due.due("read FULL", x.read(), Due.FULL);
        Due.due("fault behind FULL", x.fault(), -1);
        Due.due("the tape stays", x.count(1), 5);
        Due.due("count programs", x.count(0), 6);
        Due.due("count states of program 0", x.count(2), 1);
        Due.due("found TEXT", x.found(Due.TEXT), 1);
        Due.due("found FULL", x.found(Due.FULL), 1);
    }
}
