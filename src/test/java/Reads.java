/** A fresh object reads one text; what read(), fault() and count() then tell is due. */
final class Reads {
    static final int GOOD = -1;
    private static final String[] EARLIER = {"z", "9", "-", "{", "state s{}", "1=1 and ", " "};

    private static ToyPitch used = null;
    private static int renewals = 0;
    private static int callsLeft = 0;

    private Reads() { }

    /** A text with a FAULT at that place, or, for GOOD, without one. */
    static void fault(String text, int place) {
        ToyPitch x = new ToyPitch();
        String told = text.length() > 60 ? text.substring(0, 60) + " .. (" + text.length() + ")" : text;
        Due.feedText(x, text);
        Due.due("bytes of " + told, x.count(1), text.length());
        Due.due("read of " + told, x.read(), place == GOOD ? 0 : Due.TEXT);
        Due.due("fault of " + told, x.fault(), place);
        Due.due("tape behind " + told, x.count(1), 0);
        Due.due("programs behind " + told, x.count(0), place == GOOD ? 1 : 0);
        Due.due("found TEXT behind " + told, x.found(Due.TEXT), place == GOOD ? 0 : 1);
        faultInUse(text, told, place);
    }

    /** The same of an object that has read other texts before, of which nothing may show. */
    private static void faultInUse(String text, String told, int place) {
        int calls = (text.length() + 7) / 8 + 3;
        if (used == null || callsLeft < calls || used.count(0) == 6) {
            used = new ToyPitch();
            callsLeft = 512 - 101 - calls;
            String earlier = EARLIER[renewals % EARLIER.length].repeat(800);
            renewals++;
            Due.readText(used, earlier.substring(0, 800));
        }
        callsLeft -= calls;
        int programs = used.count(0);
        Due.due("read in use of " + told, Due.readText(used, text), place == GOOD ? programs : Due.TEXT);
        Due.due("fault in use of " + told, used.fault(), place);
    }

    static void good(String text) {
        fault(text, GOOD);
    }

    /** Where the FAULT is told by what stands ahead of it. */
    static void faultBehind(String ahead, String rest) {
        fault(ahead + rest, ahead.length());
    }

    /** What HOME's robot 0 has for a behind one tick of a program with this SUM. */
    static void sum(String sum, int due) {
        ToyPitch x = new ToyPitch();
        Due.give(x, 0, 0, "state s{when 1=1{set a " + sum + ";}}");
        x.begin(0, 1);
        x.tick(1);
        Due.due("set a " + sum, x.robot(0, 4), due);
    }
}
