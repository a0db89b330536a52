import java.io.IOException;
import java.lang.reflect.Constructor;
import java.lang.reflect.Field;
import java.lang.reflect.Method;
import java.lang.reflect.Modifier;
import java.nio.file.Files;
import java.nio.file.Path;
import java.util.Set;
import java.util.TreeSet;
import java.util.regex.Matcher;
import java.util.regex.Pattern;

/** The rules of LANGUAGE.md that can be seen in the text and in the classes; run from the project's root. */
public final class LanguageTest {
    private static final Set<String> FACE = Set.of(
        "int feed(int,int,int,int,int)", "int coast(int)", "int law(int)", "int push(int,int,int)", "int land(int,int,int)",
        "int facing(int,int,int,int,int)", "int sounder(int,int,int,int)", "int level(int,int,int,int,int,int)",
        "int line(int,int,int,int,int)", "int hears(int,int,int)", "int echo(int,int)", "int back()", "boolean wrong(int)",
        "boolean box(int,int,int,int)", "int fits(int)", "int firstBad(int)", "int possible(int,int)",
        "int isPossible(int,int,int,int)", "int sure(int,int,int)", "boolean choice(int,int,int,int)", "int next(int)",
        "int ahead(int)", "int wayIn(int,int,int,int,int)", "int pool(int,int,int)", "int check(int,int)", "int count(int)");
    private static int wrong = 0;

    private static void must(boolean holds, String what) {
        if (!holds) {
            wrong++;
            System.out.println("LANGUAGE: " + what);
        }
    }

    public static void main(String[] args) throws IOException {
        String text = Files.readString(Path.of("src/main/java/FogIsland.java"));
        face();
        for (Class<?> c : FogIsland.class.getDeclaredClasses()) {
            nested(c);
        }
        must(FogIsland.class.getDeclaredClasses().length + 1 <= 12, "rule 11: more than twelve classes");
        words(text);
        loops(text);
        methodLengths(text);
        System.out.println(wrong == 0 ? "the rules that are looked at are kept" : wrong + " rules are broken");
        if (wrong != 0) {
            System.exit(1);
        }
    }

    private static void face() {
        Class<?> c = FogIsland.class;
        must(Modifier.isPublic(c.getModifiers()) && Modifier.isFinal(c.getModifiers()), "rule 1: public and final");
        Set<String> found = new TreeSet<>();
        for (Method m : c.getDeclaredMethods()) {
            if (!Modifier.isPrivate(m.getModifiers())) {
                StringBuilder b = new StringBuilder(m.getReturnType().getSimpleName() + " " + m.getName() + "(");
                for (Class<?> p : m.getParameterTypes()) {
                    b.append(b.charAt(b.length() - 1) == '(' ? "" : ",").append(p.getSimpleName());
                }
                found.add(b.append(')').toString());
            }
        }
        must(found.equals(FACE), "rule 1: the face is " + found);
        for (Constructor<?> k : c.getDeclaredConstructors()) {
            must(Modifier.isPublic(k.getModifiers()) && k.getParameterCount() == 0, "rule 1: constructor " + k);
        }
        for (Field f : c.getDeclaredFields()) {
            must(Modifier.isPrivate(f.getModifiers()) || f.getName().equals("NONE"), "rule 1: field " + f);
        }
        fields(c);
        parameters(c);
    }

    private static void nested(Class<?> c) {
        int mod = c.getModifiers();
        must(Modifier.isStatic(mod) && !Modifier.isPublic(mod) && !Modifier.isProtected(mod), "rule 1: class " + c);
        for (Method m : c.getDeclaredMethods()) {
            must(FACE.stream().noneMatch(f -> f.contains(" " + m.getName() + "(")), "rule 1: the name of " + m);
        }
        must(c.getDeclaredClasses().length == 0, "rule 2: a class inside " + c);
        fields(c);
        parameters(c);
    }

    private static void fields(Class<?> c) {
        int own = 0;
        for (Field f : c.getDeclaredFields()) {
            if (Modifier.isStatic(f.getModifiers())) {
                must(Modifier.isFinal(f.getModifiers()), "rule 5: " + f);
            } else {
                own++;
            }
        }
        must(own <= 20, "rule 11: " + own + " fields in " + c);
    }

    private static void parameters(Class<?> c) {
        for (Method m : c.getDeclaredMethods()) {
            must(m.getParameterCount() <= 7, "rule 11: parameters of " + m);
            must(!m.isSynthetic(), "rule 2: a hidden method " + m);
        }
    }

    private static String bare(String text) {
        String b = text.replaceAll("(?s)/\\*.*?\\*/", " ").replaceAll("//[^\n]*", " ");
        return b.replaceAll("\"[^\"\n]*\"", "\"\"").replaceAll("'[^'\n]*'", "' '");
    }

    private static void words(String text) {
        String b = bare(text);
        String[] barred = {"\\bthrow\\b", "\\btry\\b", "\\bcatch\\b", "\\bsynchronized\\b", "\\bassert\\b", "->", "::", "\\bException\\b",
            "\\w+Exact\\b", "\\bSystem\\.(?!arraycopy)", "\\bstatic\\s*\\{", "\\bObject\\b", "\\bpackage\\b", "\\bthread\\b", "\\bequals\\b"};
        for (String word : barred) {
            Matcher m = Pattern.compile(word).matcher(b);
            must(!m.find(), "barred: " + word);
        }
        Matcher m = Pattern.compile("import ([^;]+);").matcher(b);
        while (m.find()) {
            must(m.group(1).equals("java.util.Arrays"), "rule 4: import " + m.group(1));
        }
        for (int i = 0; i < text.length(); i++) {
            must(text.charAt(i) < 127, "a sign beyond 126 at " + i);
        }
    }

    /** Rule 9, as far as a row shows it: each loop holds a counter against a bound, or runs over an array. */
    private static void loops(String text) {
        String[] rows = bare(text).split("\n");
        for (int i = 0; i < rows.length; i++) {
            boolean loop = rows[i].matches("\\s*(for|while) \\(.*");
            must(!loop || rows[i].matches(".*[<>]=? .*") || rows[i].matches(".* : .*"), "rule 9: " + rows[i].trim());
            must(!rows[i].matches(".*\\bdo \\{.*"), "rule 9: a bound that stands behind its loop: " + rows[i].trim());
        }
    }

    private static void methodLengths(String text) {
        String[] rows = text.split("\n");
        int began = -1;
        String close = "";
        for (int i = 0; i < rows.length; i++) {
            Matcher m = Pattern.compile("^( {4}| {8})(?! )[\\w\\[\\] ]+\\([^;]*\\) \\{$").matcher(rows[i]);
            if (began < 0 && m.find()) {
                began = i;
                close = m.group(1) + "}";
            } else if (began >= 0 && rows[i].equals(close)) {
                must(i - began + 1 <= 60, "rule 11: " + (i - began + 1) + " lines at " + (began + 1));
                began = -1;
            }
        }
        must(began < 0, "a method without an end at line " + began);
    }
}
