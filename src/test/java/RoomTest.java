import com.sun.management.ThreadMXBean;
import java.lang.management.ManagementFactory;
import java.util.Random;

/** No call makes an object, a new ToyPitch is small, and no arguments in any state make a call throw. */
public final class RoomTest {
    private static final String[] NAMES = {"feed", "read", "fault", "program", "start", "views", "begin", "tick", "ball",
        "robot", "score", "goal", "keep", "back", "differ", "league", "table", "order", "tell", "check", "count", "found"};
    private static final ThreadMXBean THREADS = (ThreadMXBean) ManagementFactory.getThreadMXBean();

    public static void main(String[] args) {
        wildCalls();
        smallObjects();
        noObjects();
        Due.end();
    }

    private static long used() {
        return THREADS.getThreadAllocatedBytes(Thread.currentThread().getId());
    }

    private static void wildCalls() {
        Random random = new Random(7);
        int[] odd = {Integer.MIN_VALUE, Integer.MIN_VALUE + 1, -1006, -1001, -2, -1, 0, 1, 2, 3, 4, 5, 9, 10, 50, 60, 61,
            Integer.MAX_VALUE - 1, Integer.MAX_VALUE};
        for (int run = 0; run < 300; run++) {
            ToyPitch x = new ToyPitch();
            if (run % 2 == 0) {
                Due.readText(x, "state s{when held=2{kick a*a-tick 1 9;}when 1=1{set a a*a+7-tick;to ballx bally;}}");
                for (int r = 0; r < 10; r++) {
                    x.program(r % 2, r / 2, 0);
                }
            }
            for (int call = 0; call < 400; call++) {
                long[] a = new long[4];
                for (int i = 0; i < a.length; i++) {
                    a[i] = random.nextInt(4) == 0 ? random.nextInt() : odd[random.nextInt(odd.length)];
                }
                String name = NAMES[random.nextInt(NAMES.length)];
                if (name.equals("feed")) {
                    a[0] = random.nextLong();
                }
                int answer = Due.call(x, name, a);
                boolean isNumber = name.equals("robot") || answer >= -1005 && answer <= 100000;
                Due.due(name + " has a sound answer", isNumber ? 1 : 0, 1);
            }
        }
    }

    private static void smallObjects() {
        new ToyPitch();
        long before = used();
        ToyPitch x = new ToyPitch();
        long bytes = used() - before;
        System.out.println("a new object has " + bytes + " bytes");
        Due.due("fewer than 400,000 bytes", bytes < 400000 ? 1 : 0, 1);
        Due.due("it is there", x.count(0), 0);
    }

    /** The second time, when all classes are there, the same calls take no room at all. */
    private static void noObjects() {
        for (int time = 0; time < 2; time++) {
            ToyPitch x = new ToyPitch();
            long eight = 0x7b78206574617473L;
            long before = used();
            int sum = x.feed(eight, 8) + x.feed('}', 1) + x.read() + x.feed(eight, 8) + x.read() + x.fault();
            sum += x.program(0, 0, 0) + x.start(0, 0, 3, 3) + x.views(0, 1, 2) + x.begin(0, 1);
            for (int i = 0; i < 20; i++) {
                sum += x.tick(50) + x.ball(0) + x.robot(0, 0) + x.score(0) + x.goal(0) + x.keep(0) + x.back(0) + x.differ(0);
                sum += x.league(15, 60) + x.table(0, 0) + x.order(0) + x.tell(3) + x.check() + x.count(0) + x.found(-1001);
            }
            long bytes = used() - before;
            Due.due("they did something", sum != 0 ? 1 : 0, 1);
            if (time == 1) {
                Due.due("bytes that calls took", bytes, 0);
            }
        }
    }
}
