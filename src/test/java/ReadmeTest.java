/** README.md's example answers what README.md says of it. */
public final class ReadmeTest {
    public static void main(String[] args) {
        ToyPitch x = new ToyPitch();
        String text = "state s { when held = 2 { kick 1 1 9; } when 1 = 1 { to ballx bally; } }";
        for (int i = 0; i < text.length(); i++) {
            Due.due("feed", x.feed(text.charAt(i), 1), i + 1);
        }
        Due.due("read", x.read(), 0);
        Due.due("program", x.program(0, 3, 0), 1);
        Due.due("begin", x.begin(0, 1), 1);
        Due.due("tick(50)", x.tick(50), 0);
        Due.due("score(1)", x.score(1), 10);
        Due.due("goal(0)", x.goal(0), 4);
        Due.end();
    }
}
