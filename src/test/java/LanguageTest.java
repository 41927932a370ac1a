import java.lang.reflect.Field;
import java.lang.reflect.Member;
import java.lang.reflect.Method;
import java.lang.reflect.Modifier;
import java.nio.file.Files;
import java.nio.file.Path;
import java.util.ArrayList;
import java.util.Arrays;
import java.util.List;
import java.util.TreeSet;
import java.util.regex.Matcher;
import java.util.regex.Pattern;

// Those rules of LANGUAGE.md that can be told from the text of the program and from its compiled face.
public final class LanguageTest {
    private static final String FACE = "box hears sleep clock set power at rounds rings say ticks lost kept write erase fault ask loud lies result "
        + "foretold life longest best fact hour place cells program hand tear has begin days way ear log liars courses course judge quarrel "
        + "settle count";
    private static int wrong = 0;

    private static void must(boolean holds, String what) {
        if (holds) return;
        wrong++;
        System.out.println("LANGUAGE: " + what);
    }

    public static void main(String[] args) throws Exception {
        face();
        inner();
        text(Files.readString(Path.of("src/main/java/EarField.java")));
        System.out.println("LanguageTest: " + wrong + " rules broken");
        if (wrong != 0) System.exit(1);
    }

    private static void face() {
        must(Modifier.isFinal(EarField.class.getModifiers()), "1: final");
        TreeSet<String> found = new TreeSet<>();
        for (Method m : EarField.class.getDeclaredMethods()) {
            if (Modifier.isPublic(m.getModifiers())) {
                found.add(m.getName());
                must(m.getReturnType() == (m.getName().equals("cells") ? long.class : int.class), "1: type of " + m.getName());
            }
            must(Modifier.isPublic(m.getModifiers()) || Modifier.isPrivate(m.getModifiers()), "1: " + m.getName());
        }
        must(found.equals(new TreeSet<>(Arrays.asList(FACE.split(" ")))), "1: the face is " + found);
        for (Field f : EarField.class.getDeclaredFields()) {
            boolean constant = Arrays.asList("NONE", "UNKNOWN", "OUTSIDE", "NOT", "FULL").contains(f.getName());
            must(constant ? Modifier.isPublic(f.getModifiers()) : Modifier.isPrivate(f.getModifiers()), "1: " + f.getName());
        }
    }

    private static void inner() {
        List<String> faceNames = Arrays.asList(FACE.split(" "));
        Class<?>[] classes = EarField.class.getDeclaredClasses();
        must(classes.length <= 12, "11: " + classes.length + " classes");
        for (Class<?> c : classes) {
            must(Modifier.isStatic(c.getModifiers()) && !Modifier.isPublic(c.getModifiers()), "1, 2: " + c);
            int fields = 0;
            for (Field f : c.getDeclaredFields()) {
                if (Modifier.isStatic(f.getModifiers())) must(Modifier.isFinal(f.getModifiers()), "5: " + f);
                else fields++;
            }
            must(fields <= 20, "11: " + c + " has " + fields + " fields");
            List<Member> members = new ArrayList<>(Arrays.asList(c.getDeclaredMethods()));
            for (Member m : members) {
                must(!Modifier.isPrivate(m.getModifiers()) || !faceNames.contains(m.getName()), "1: private " + m.getName());
            }
            for (Method m : c.getDeclaredMethods()) must(m.getParameterCount() <= 7, "11: " + m);
        }
    }

    private static void text(String source) {
        String code = source.replaceAll("//[^\n]*", "");
        String[] barred = {"\\bthrow\\b", "\\btry\\b", "\\bcatch\\b", "\\bsynchronized\\b", "\\bassert\\b", "->", "::", "\\bstatic\\s*\\{",
            "\\brecord\\b", "\\benum\\b", "\"\\s*\\+", "\\+\\s*\"", "\\bjava\\.(?!util\\.Arrays\\b)", "Exact\\b", "\\bpackage\\b", "\\bString\\.",
            "\\bObject\\b", "\\bprotected\\b", "@"};
        for (String bar : barred) {
            Matcher m = Pattern.compile(bar).matcher(code);
            must(!m.find(), "barred: " + bar);
        }
        String rest = code.replaceAll("\\bnew (int|boolean|byte)\\[", "").replaceAll("new (Box|Sum|Row|Question)\\[?", "");
        String constructor = rest.substring(rest.indexOf("public EarField()"), rest.indexOf("public int box"));
        must(!rest.replace(constructor, "").contains("new "), "12: made outside constructors");
        int begun = 0;
        boolean inMethod = false;
        String[] lines = source.split("\n");
        for (int i = 0; i < lines.length; i++) {
            must(lines[i].length() <= 120, "line " + (i + 1) + " is long");
            if (!inMethod && lines[i].matches("( {4}| {8})[a-zA-Z][^=;]*\\(.*\\) \\{")) {
                inMethod = true;
                begun = i;
            } else if (inMethod && lines[i].matches("( {4}| {8})}")) {
                inMethod = false;
                must(i - begun < 60, "11: the method at line " + (begun + 1) + " is long");
            }
        }
    }
}
