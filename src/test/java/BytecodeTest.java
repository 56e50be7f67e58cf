import java.io.IOException;
import java.util.HashMap;
import java.util.HashSet;
import java.util.LinkedHashMap;
import java.util.List;
import java.util.Map;
import java.util.Set;

/** Rules 4, 6, 7, 8, 11 and 12 of LANGUAGE.md, as the compiled class shows them: who calls whom, and what is made where. */
public final class BytecodeTest {
    private static final Set<String> LIBRARY = Set.of("java/lang/Object.<init>()V", "java/lang/String.length()I",
        "java/lang/String.charAt(I)C", "java/lang/String.indexOf(I)I", "java/lang/Math.max(II)I", "java/lang/Math.min(II)I",
        "java/lang/Math.abs(I)I", "java/lang/Integer.bitCount(I)I",
        "java/lang/System.arraycopy(Ljava/lang/Object;ILjava/lang/Object;II)V");
    private static final Set<Integer> MAKE = Set.of(ClassFile.NEW, ClassFile.NEWARRAY, ClassFile.ANEWARRAY,
        ClassFile.MULTIANEWARRAY);
    /** athrow, checkcast, instanceof, monitorenter, monitorexit, invokedynamic. */
    private static final Set<Integer> NEVER = Set.of(191, 192, 193, 194, 195, 186);
    private static final int DEEPEST = 8;

    private static final Map<String, ClassFile.Body> METHODS = new LinkedHashMap<>();
    private static final Map<String, Integer> DEPTHS = new HashMap<>();

    public static void main(String[] args) throws IOException {
        METHODS.putAll(new ClassFile("ToyPitch.class").methods);
        for (Class<?> inside : ToyPitch.class.getDeclaredClasses()) {
            METHODS.putAll(new ClassFile(inside.getName() + ".class").methods);
        }
        want("the public calls are there", METHODS.containsKey("ToyPitch.feed(JI)I") && METHODS.containsKey("ToyPitch.check()I"));
        for (Map.Entry<String, ClassFile.Body> method : METHODS.entrySet()) {
            instructions(method.getKey(), method.getValue());
            calls(method.getKey(), method.getValue());
        }
        depths();
        Due.end();
    }

    private static void want(String what, boolean isSo) {
        Due.due(what, isSo ? 1 : 0, 1);
    }

    /** Rules 6 and 12: nothing is thrown or caught, and a constructor alone makes objects. */
    private static void instructions(String name, ClassFile.Body body) {
        boolean isConstructor = name.contains(".<init>") || name.contains(".<clinit>");
        Due.due(name + " catches", body.handlers, 0);
        for (int code : body.codes) {
            want(name + " has no instruction " + code, !NEVER.contains(code));
            want(name + " makes nothing", isConstructor || !MAKE.contains(code));
        }
        boolean isTested = name.equals("ToyPitch$Robot.isLost(I)Z");
        Due.due(name + " divides by what may be 0", body.openDivisions, isTested ? 1 : 0);
    }

    /** Rule 4: what isn't the class's own is in the list. */
    private static void calls(String name, ClassFile.Body body) {
        for (String call : body.calls) {
            want(name + " may call " + call, METHODS.containsKey(call) || LIBRARY.contains(call));
        }
    }

    /** Rules 8 and 11: no method comes back to itself, and calls go at most eight deep, the public one counted. */
    private static void depths() {
        int deepest = 0;
        for (String name : METHODS.keySet()) {
            int depth = depth(name, new HashSet<>());
            want(name + " goes at most eight deep: " + depth, depth <= DEEPEST);
            deepest = Math.max(deepest, depth);
        }
        System.out.println("calls go " + deepest + " deep");
        want("calls were followed", deepest > 1);
    }

    private static int depth(String name, Set<String> open) {
        ClassFile.Body body = METHODS.get(name);
        if (body == null) {
            return 0;
        }
        boolean isNew = open.add(name);
        want(name + " doesn't come back to itself", isNew);
        if (!isNew) {
            return 1;
        }
        int most = 0;
        for (String call : DEPTHS.containsKey(name) ? List.<String>of() : body.calls) {
            most = Math.max(most, depth(call, open));
        }
        open.remove(name);
        DEPTHS.putIfAbsent(name, most + 1);
        return DEPTHS.get(name);
    }
}
