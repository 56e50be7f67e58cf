import java.io.IOException;
import java.lang.reflect.Constructor;
import java.lang.reflect.Field;
import java.lang.reflect.Method;
import java.lang.reflect.Modifier;
import java.nio.file.Files;
import java.nio.file.Path;
import java.util.Set;
import java.util.TreeSet;
import java.util.regex.Matcher;
import java.util.regex.Pattern;

/** The face of the document, and those rules of LANGUAGE.md that can be seen by reflection and in the text of the source. */
public final class LanguageTest {
    private static final String[] FACE = {
        "feed(long,int)", "read()", "fault()", "program(int,int,int)", "start(int,int,int,int)", "views(int,int,int)",
        "begin(int,int)", "tick(int)", "ball(int)", "robot(int,int)", "score(int)", "goal(int)", "keep(int)", "back(int)",
        "differ(int)", "league(int,int)", "table(int,int)", "order(int)", "tell(int)", "check()", "count(int)", "found(int)",
    };

    public static void main(String[] args) throws IOException {
        face();
        insides();
        source(Files.readString(Path.of(args.length > 0 ? args[0] : "src/main/java/ToyPitch.java")));
        Due.end();
    }

    private static void want(String what, boolean isSo) {
        Due.due(what, isSo ? 1 : 0, 1);
    }

    private static void face() {
        Class<?> c = ToyPitch.class;
        want("public final", Modifier.isPublic(c.getModifiers()) && Modifier.isFinal(c.getModifiers()));
        Set<String> due = new TreeSet<>(Set.of(FACE));
        Set<String> got = new TreeSet<>();
        Set<String> names = new TreeSet<>();
        for (String call : FACE) {
            names.add(call.substring(0, call.indexOf('(')));
        }
        for (Method m : c.getDeclaredMethods()) {
            boolean isPublic = Modifier.isPublic(m.getModifiers());
            if (isPublic) {
                StringBuilder b = new StringBuilder(m.getName()).append("(");
                for (Class<?> p : m.getParameterTypes()) {
                    b.append(b.charAt(b.length() - 1) == '(' ? "" : ",").append(p.getName());
                }
                got.add(b.append(")").toString());
                want(m.getName() + " answers an int", m.getReturnType() == int.class && !Modifier.isStatic(m.getModifiers()));
            } else {
                want(m.getName() + " is private", Modifier.isPrivate(m.getModifiers()));
                want(m.getName() + " is no public name", !names.contains(m.getName()));
            }
        }
        want("the face: " + got, got.equals(due));
        for (Constructor<?> k : c.getDeclaredConstructors()) {
            want("one public constructor without arguments", Modifier.isPublic(k.getModifiers()) && k.getParameterCount() == 0);
        }
        for (Field f : c.getDeclaredFields()) {
            want(f.getName() + " is private", Modifier.isPrivate(f.getModifiers()));
        }
        for (Class<?> inside : c.getDeclaredClasses()) {
            for (Method m : inside.getDeclaredMethods()) {
                want(inside + " " + m.getName() + " is no public name", !names.contains(m.getName()));
            }
        }
    }

    private static void insides() {
        Class<?>[] insides = ToyPitch.class.getDeclaredClasses();
        want("at most twelve classes", insides.length + 1 <= 12);
        for (Class<?> c : insides) {
            want(c + " is static and private", Modifier.isStatic(c.getModifiers()) && Modifier.isPrivate(c.getModifiers()));
            int fields = 0;
            for (Field f : c.getDeclaredFields()) {
                boolean isStatic = Modifier.isStatic(f.getModifiers());
                fields += isStatic ? 0 : 1;
                want(c + " " + f.getName() + ": static is final", !isStatic || Modifier.isFinal(f.getModifiers()));
            }
            want(c + " has at most twenty fields", fields <= 20);
            for (Method m : c.getDeclaredMethods()) {
                want(m + " has at most seven parameters", m.getParameterCount() <= 7);
            }
        }
    }

    private static void source(String text) {
        String code = text.replaceAll("(?s)/\\*.*?\\*/", " ").replaceAll("//[^\n]*", " ");
        String plain = code.replaceAll("\"[^\"\n]*\"", "\"\"").replaceAll("'[^'\n]*'", "' '");
        String[] never = {"\\bthrow\\b", "\\bthrows\\b", "\\btry\\b", "\\bcatch\\b", "\\bsynchronized\\b", "\\bassert\\b", "->",
            "::", "\\bimport\\b", "\\bpackage\\b", "Exact\\b", "\\bvar\\b", "\\bdouble\\b", "\\bfloat\\b", "static\\s*\\{",
            "\\bprotected\\b", "\"\"\\s*\\+", "\\+\\s*\"\"", "\\binstanceof\\b", "\\bObject\\b"};
        for (String word : never) {
            want("no " + word, !Pattern.compile(word).matcher(plain).find());
        }
        want("signs of 10 and 32 .. 126 alone", text.chars().allMatch(b -> b == 10 || b >= 32 && b < 127));
        library(plain);
        lengths(text);
    }

    private static void library(String plain) {
        Set<String> allowed = Set.of("Math.max", "Math.min", "Math.abs", "Integer.bitCount", "System.arraycopy");
        Matcher m = Pattern.compile("\\b(Math|Integer|Long|System|Arrays|String|List)\\.(\\w+)").matcher(plain);
        while (m.find()) {
            want(m.group() + " is allowed", allowed.contains(m.group()));
        }
    }

    private static void lengths(String text) {
        int begun = -1;
        String[] lines = text.split("\n");
        for (int i = 0; i < lines.length; i++) {
            want("line " + (i + 1) + " has at most 120 signs", lines[i].length() <= 120);
            if (lines[i].matches(" {4,8}\\w.*\\) \\{") && !lines[i].contains("class ")) {
                begun = i;
            }
            if (lines[i].matches(" {4,8}\\}") && begun >= 0) {
                want("the method of line " + (begun + 1) + " has at most sixty lines", i - begun + 1 <= 60);
                begun = -1;
            }
        }
    }
}
