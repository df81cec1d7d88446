import java.io.IOException;
import java.lang.reflect.Field;
import java.lang.reflect.Method;
import java.lang.reflect.Modifier;
import java.nio.file.Files;
import java.nio.file.Path;
import java.util.Set;
import java.util.TreeSet;
import java.util.regex.Matcher;
import java.util.regex.Pattern;

/** The public face, the constants, and those rules of LANGUAGE.md that a program can see. */
final class FaceTest {
    private static final String FACE = "auction() cell(int) change(int,int) difference(int,int) drop(int) find(int) "
        + "gain(int,int) image(int) kind(int,int) mode(int) phase(int,int) place(int) remove(int) repair() restore(int) "
        + "shrink(int) slot(int,int) stock(int,int) told(int) total() ";
    private static final String[] FORBIDDEN = {"\\bimport\\b", "\\bpackage\\b", "\\bthrows?\\b", "\\btry\\b", "\\bcatch\\b",
        "\\bfinally\\b", "\\bsynchronized\\b", "\\bassert\\b", "->", "::", "static\\s*\\{", "\\bvolatile\\b", "Exact\\b",
        "\\bvar\\b", "\\bObject\\b", "\\bnative\\b", "@"};
    private static final Check check = new Check();

    public static void main(String[] args) throws IOException {
        constants();
        face();
        classes();
        source(Files.readString(Path.of("src/main/java/BidMosaic.java")));
        check.end();
    }

    private static void constants() {
        check.due("UNKNOWN", BidMosaic.UNKNOWN, -1);
        check.due("OUTSIDE", BidMosaic.OUTSIDE, -2);
        check.due("STATE", BidMosaic.STATE, -3);
        check.due("FULL", BidMosaic.FULL, -4);
        check.due("NO", BidMosaic.NO, -5);
        check.due("NONE", BidMosaic.NONE, -6);
        check.due("GONE", BidMosaic.GONE, -100000000);
    }

    private static void face() {
        check.holds("public and final", BidMosaic.class.getModifiers() == (Modifier.PUBLIC | Modifier.FINAL));
        TreeSet<String> methods = new TreeSet<>();
        for (Method m : BidMosaic.class.getDeclaredMethods()) {
            if (!Modifier.isPrivate(m.getModifiers())) {
                check.holds(m + " is plain and public, of int", m.getModifiers() == Modifier.PUBLIC && m.getReturnType() == int.class);
                StringBuilder text = new StringBuilder(m.getName()).append('(');
                for (Class<?> type : m.getParameterTypes()) {
                    text.append(text.charAt(text.length() - 1) == '(' ? "" : ",").append(type.getName());
                }
                methods.add(text.append(") ").toString());
            }
        }
        check.holds("the methods " + methods, String.join("", methods).equals(FACE));
        TreeSet<String> fields = new TreeSet<>();
        for (Field f : BidMosaic.class.getDeclaredFields()) {
            if (!Modifier.isPrivate(f.getModifiers())) {
                fields.add(f.getName());
            }
        }
        check.holds("the constants " + fields, fields.equals(Set.of("UNKNOWN", "OUTSIDE", "STATE", "FULL", "NO", "NONE", "GONE")));
        check.due("constructors", BidMosaic.class.getConstructors().length, 1);
        check.due("its parameters", BidMosaic.class.getConstructors()[0].getParameterCount(), 0);
    }

    private static void classes() {
        Class<?>[] inside = BidMosaic.class.getDeclaredClasses();
        check.holds("at most twelve classes", inside.length < 12);
        ruled(BidMosaic.class);
        for (Class<?> c : inside) {
            check.holds(c + " is static, not public", Modifier.isStatic(c.getModifiers()) && !Modifier.isPublic(c.getModifiers()));
            check.due("classes inside " + c, c.getDeclaredClasses().length, 0);
            ruled(c);
        }
    }

    private static void ruled(Class<?> c) {
        int fields = 0;
        for (Field f : c.getDeclaredFields()) {
            boolean constant = Modifier.isStatic(f.getModifiers());
            check.holds(f + " is final if it is static", !constant || Modifier.isFinal(f.getModifiers()));
            fields += constant ? 0 : 1;
        }
        check.holds(c + " has at most twenty fields", fields <= 20);
        for (Method m : c.getDeclaredMethods()) {
            check.holds(m + " takes at most seven", m.getParameterCount() <= 7);
            boolean named = FACE.startsWith(m.getName() + "(") || FACE.contains(" " + m.getName() + "(");
            check.holds(m + " bears no public name", !named || Modifier.isPublic(m.getModifiers()));
        }
    }

    private static void source(String whole) {
        check.holds("signs 1 to 127", whole.chars().allMatch(sign -> sign >= 1 && sign <= 127));
        String code = whole.replaceAll("(?s)/\\*.*?\\*/", "").replaceAll("//[^\n]*", "");
        for (String forbidden : FORBIDDEN) {
            check.holds("no " + forbidden, !Pattern.compile(forbidden).matcher(code).find());
        }
        Matcher calls = Pattern.compile("\\b(Math|System|Arrays|Integer|Long)\\.(\\w+)").matcher(code);
        while (calls.find()) {
            check.holds(calls.group(), Set.of("Math.abs", "Math.max", "Math.min", "System.arraycopy").contains(calls.group()));
        }
        methodsAreShort(whole.split("\n"));
    }

    private static void methodsAreShort(String[] lines) {
        int found = 0;
        for (int start = 0; start < lines.length; start++) {
            Matcher head = Pattern.compile("( +)(public|private) .*\\) \\{").matcher(lines[start]);
            if (head.matches()) {
                int end = start;
                while (!lines[end].equals(head.group(1) + "}")) {
                    end++;
                }
                found++;
                check.holds("at most sixty lines:" + lines[start], end - start < 60);
            }
        }
        check.holds("methods are found: " + found, found > 50);
    }
}
